abbrev c_Lw_law : ByteArray := code
def L_Lw_law_18 (Nu : Nat) (G : GT) : Nat → Int32 → Mm → Option (Int32 × Mm)
  | 0, _, _ => none
  | nu + 1, z3_18, M_18 => if ((Int32.ofNat (g_n G)) - 5) < z3_18 then some (1, M_18) else if inb z3_18 (g_n G) = true then lt (fun (Mu4 : Mm) => lt (z3_18 + 5) fun xu5 => L_Lw_law_18 Nu G nu xu5 Mu4) fun ju3 => lt ((g_xs G (Int32.toNatClampNeg z3_18)) &&& 31) fun xu6 => if xu6 = 0 then if inb (z3_18 + 1) (g_n G) = true then if inb (z3_18 + 2) (g_n G) = true then if inb (z3_18 + 3) (g_n G) = true then (f_Uc_feed Nu (g_xs G (Int32.toNatClampNeg (z3_18 + 1))) ((((g_xs G (Int32.toNatClampNeg (z3_18 + 2))).toInt64) <<< (((32 : Int32)).toInt64 &&& 63)) ||| (((g_xs G (Int32.toNatClampNeg (z3_18 + 3))).toInt64) &&& 4294967295)) M_18).bind fun vu11 => lt vu11.1 fun vu12 => lt vu11.2 fun Mu13 => if inb (z3_18 + 1) (g_n G) = true then if inb (z3_18 + 2) (g_n G) = true then if inb (z3_18 + 3) (g_n G) = true then (f_Mo_feed Nu (g_xs G (Int32.toNatClampNeg (z3_18 + 1))) ((((g_xs G (Int32.toNatClampNeg (z3_18 + 2))).toInt64) <<< (((32 : Int32)).toInt64 &&& 63)) ||| (((g_xs G (Int32.toNatClampNeg (z3_18 + 3))).toInt64) &&& 4294967295)) Mu13).bind fun vu17 => lt vu17.1 fun vu18 => lt vu17.2 fun Mu19 => if vu12 = vu18 then ju3 Mu19 else some (0, Mu19) else none else none else none else none else none else none else if xu6 = 1 then (f_Uc_town Nu M_18).bind fun vu22 => lt vu22.1 fun vu23 => lt vu22.2 fun Mu24 => (f_Mo_town Nu Mu24).bind fun vu25 => lt vu25.1 fun vu26 => lt vu25.2 fun Mu27 => if vu23 = vu26 then ju3 Mu27 else some (0, Mu27) else if xu6 = 2 then if (f_Uc_fault M_18) = (f_Mo_fault M_18) then ju3 M_18 else some (0, M_18) else if xu6 = 3 then if inb (z3_18 + 1) (g_n G) = true then (f_Uc_told Nu (g_xs G (Int32.toNatClampNeg (z3_18 + 1))) M_18).bind fun vu33 => if inb (z3_18 + 1) (g_n G) = true then (f_Mo_told Nu (g_xs G (Int32.toNatClampNeg (z3_18 + 1))) M_18).bind fun vu35 => lt vu35.1 fun vu36 => lt vu35.2 fun Mu37 => if vu33 = vu36 then ju3 Mu37 else some (0, Mu37) else none else none else if xu6 = 4 then if inb (z3_18 + 1) (g_n G) = true then (f_Uc_count (g_xs G (Int32.toNatClampNeg (z3_18 + 1))) M_18).bind fun vu41 => if inb (z3_18 + 1) (g_n G) = true then (f_Mo_count Nu (g_xs G (Int32.toNatClampNeg (z3_18 + 1))) M_18).bind fun vu43 => if vu41 = vu43 then ju3 M_18 else some (0, M_18) else none else none else if xu6 = 5 then if inb (z3_18 + 1) (g_n G) = true then (f_Uc_friends (g_xs G (Int32.toNatClampNeg (z3_18 + 1))) M_18).bind fun vu47 => if inb (z3_18 + 1) (g_n G) = true then (f_Mo_friends Nu (g_xs G (Int32.toNatClampNeg (z3_18 + 1))) M_18).bind fun vu49 => if vu47 = vu49 then ju3 M_18 else some (0, M_18) else none else none else if xu6 = 6 then if inb (z3_18 + 1) (g_n G) = true then (f_Uc_alike Nu (g_xs G (Int32.toNatClampNeg (z3_18 + 1))) M_18).bind fun vu53 => if inb (z3_18 + 1) (g_n G) = true then (f_Mo_alike Nu (g_xs G (Int32.toNatClampNeg (z3_18 + 1))) M_18).bind fun vu55 => lt vu55.1 fun vu56 => lt vu55.2 fun Mu57 => if vu53 = vu56 then ju3 Mu57 else some (0, Mu57) else none else none else if xu6 = 7 then if inb (z3_18 + 1) (g_n G) = true then if inb (z3_18 + 2) (g_n G) = true then if inb (z3_18 + 1) (g_n G) = true then if inb (z3_18 + 2) (g_n G) = true then (f_Mo_pair Nu (g_xs G (Int32.toNatClampNeg (z3_18 + 1))) (g_xs G (Int32.toNatClampNeg (z3_18 + 2))) M_18).bind fun vu64 => if (f_Uc_pair (g_xs G (Int32.toNatClampNeg (z3_18 + 1))) (g_xs G (Int32.toNatClampNeg (z3_18 + 2))) M_18) = vu64 then ju3 M_18 else some (0, M_18) else none else none else none else none else if xu6 = 8 then if inb (z3_18 + 1) (g_n G) = true then if inb (z3_18 + 2) (g_n G) = true then if inb (z3_18 + 3) (g_n G) = true then lt (fun (xu71 : Int32) => (f_Uc_tie (g_xs G (Int32.toNatClampNeg (z3_18 + 1))) (g_xs G (Int32.toNatClampNeg (z3_18 + 2))) xu71 M_18).bind fun vu72 => lt vu72.1 fun vu73 => lt vu72.2 fun Mu74 => if inb (z3_18 + 1) (g_n G) = true then if inb (z3_18 + 2) (g_n G) = true then if inb (z3_18 + 3) (g_n G) = true then lt (fun (xu79 : Int32) => (f_Mo_tie Nu (g_xs G (Int32.toNatClampNeg (z3_18 + 1))) (g_xs G (Int32.toNatClampNeg (z3_18 + 2))) xu79 Mu74).bind fun vu80 => lt vu80.1 fun vu81 => lt vu80.2 fun Mu82 => if vu73 = vu81 then ju3 Mu82 else some (0, Mu82)) fun ju78 => if (g_xs G (Int32.toNatClampNeg (z3_18 + 3))) = 0 then ju78 0 else ju78 1 else none else none else none) fun ju70 => if (g_xs G (Int32.toNatClampNeg (z3_18 + 3))) = 0 then ju70 0 else ju70 1 else none else none else none else if xu6 = 9 then if inb (z3_18 + 1) (g_n G) = true then if inb (z3_18 + 2) (g_n G) = true then if inb (z3_18 + 3) (g_n G) = true then (f_Uc_bar (g_xs G (Int32.toNatClampNeg (z3_18 + 1))) (g_xs G (Int32.toNatClampNeg (z3_18 + 2))) (g_xs G (Int32.toNatClampNeg (z3_18 + 3))) M_18).bind fun vu90 => lt vu90.1 fun vu91 => lt vu90.2 fun Mu92 => if inb (z3_18 + 1) (g_n G) = true then if inb (z3_18 + 2) (g_n G) = true then if inb (z3_18 + 3) (g_n G) = true then (f_Mo_bar Nu (g_xs G (Int32.toNatClampNeg (z3_18 + 1))) (g_xs G (Int32.toNatClampNeg (z3_18 + 2))) (g_xs G (Int32.toNatClampNeg (z3_18 + 3))) Mu92).bind fun vu96 => lt vu96.1 fun vu97 => lt vu96.2 fun Mu98 => if vu91 = vu97 then ju3 Mu98 else some (0, Mu98) else none else none else none else none else none else none else if xu6 = 10 then (f_Uc_birth Nu M_18).bind fun vu101 => lt vu101.1 fun vu102 => lt vu101.2 fun Mu103 => (f_Mo_birth Nu Mu103).bind fun vu104 => lt vu104.1 fun vu105 => lt vu104.2 fun Mu106 => if vu102 = vu105 then ju3 Mu106 else some (0, Mu106) else if xu6 = 11 then if inb (z3_18 + 1) (g_n G) = true then (f_Uc_death Nu (g_xs G (Int32.toNatClampNeg (z3_18 + 1))) M_18).bind fun vu110 => lt vu110.1 fun vu111 => lt vu110.2 fun Mu112 => if inb (z3_18 + 1) (g_n G) = true then (f_Mo_death Nu (g_xs G (Int32.toNatClampNeg (z3_18 + 1))) Mu112).bind fun vu114 => lt vu114.1 fun vu115 => lt vu114.2 fun Mu116 => if vu111 = vu115 then ju3 Mu116 else some (0, Mu116) else none else none else if xu6 = 12 then if inb (z3_18 + 1) (g_n G) = true then if inb (z3_18 + 2) (g_n G) = true then if inb (z3_18 + 3) (g_n G) = true then if inb (z3_18 + 4) (g_n G) = true then if inb (z3_18 + 1) (g_n G) = true then if inb (z3_18 + 2) (g_n G) = true then if inb (z3_18 + 3) (g_n G) = true then if inb (z3_18 + 4) (g_n G) = true then if (f_Uc_made (g_xs G (Int32.toNatClampNeg (z3_18 + 1))) (g_xs G (Int32.toNatClampNeg (z3_18 + 2))) (g_xs G (Int32.toNatClampNeg (z3_18 + 3))) (g_xs G (Int32.toNatClampNeg (z3_18 + 4)))) = (f_Mo_made (g_xs G (Int32.toNatClampNeg (z3_18 + 1))) (g_xs G (Int32.toNatClampNeg (z3_18 + 2))) (g_xs G (Int32.toNatClampNeg (z3_18 + 3))) (g_xs G (Int32.toNatClampNeg (z3_18 + 4)))) then ju3 M_18 else some (0, M_18) else none else none else none else none else none else none else none else none else if xu6 = 13 then if inb (z3_18 + 1) (g_n G) = true then (f_Uc_good Nu (g_xs G (Int32.toNatClampNeg (z3_18 + 1))) M_18).bind fun vu130 => lt vu130.1 fun vu131 => lt vu130.2 fun Mu132 => if inb (z3_18 + 1) (g_n G) = true then (f_Mo_good Nu (g_xs G (Int32.toNatClampNeg (z3_18 + 1))) Mu132).bind fun vu134 => lt vu134.1 fun vu135 => lt vu134.2 fun Mu136 => if vu131 = vu135 then ju3 Mu136 else some (0, Mu136) else none else none else if xu6 = 14 then (f_Uc_born Nu M_18).bind fun vu139 => lt vu139.1 fun vu140 => lt vu139.2 fun Mu141 => (f_Mo_born Nu Mu141).bind fun vu142 => lt vu142.1 fun vu143 => lt vu142.2 fun Mu144 => if vu140 = vu143 then ju3 Mu144 else some (0, Mu144) else if xu6 = 15 then if inb (z3_18 + 1) (g_n G) = true then (f_Uc_dies Nu (g_xs G (Int32.toNatClampNeg (z3_18 + 1))) M_18).bind fun vu148 => lt vu148.1 fun vu149 => lt vu148.2 fun Mu150 => if inb (z3_18 + 1) (g_n G) = true then (f_Mo_dies Nu (g_xs G (Int32.toNatClampNeg (z3_18 + 1))) Mu150).bind fun vu152 => lt vu152.1 fun vu153 => lt vu152.2 fun Mu154 => if vu149 = vu153 then ju3 Mu154 else some (0, Mu154) else none else none else if xu6 = 16 then if inb (z3_18 + 1) (g_n G) = true then (f_Uc_nearest Nu (g_xs G (Int32.toNatClampNeg (z3_18 + 1))) M_18).bind fun vu158 => lt vu158.1 fun vu159 => lt vu158.2 fun Mu160 => if inb (z3_18 + 1) (g_n G) = true then (f_Mo_nearest Nu (g_xs G (Int32.toNatClampNeg (z3_18 + 1))) Mu160).bind fun vu162 => lt vu162.1 fun vu163 => lt vu162.2 fun Mu164 => if vu159 = vu163 then ju3 Mu164 else some (0, Mu164) else none else none else if xu6 = 17 then if inb (z3_18 + 1) (g_n G) = true then if inb (z3_18 + 2) (g_n G) = true then (f_Uc_even Nu (g_xs G (Int32.toNatClampNeg (z3_18 + 1))) (g_xs G (Int32.toNatClampNeg (z3_18 + 2))) M_18).bind fun vu169 => lt vu169.1 fun vu170 => lt vu169.2 fun Mu171 => if inb (z3_18 + 1) (g_n G) = true then if inb (z3_18 + 2) (g_n G) = true then (f_Mo_even Nu (g_xs G (Int32.toNatClampNeg (z3_18 + 1))) (g_xs G (Int32.toNatClampNeg (z3_18 + 2))) Mu171).bind fun vu174 => lt vu174.1 fun vu175 => lt vu174.2 fun Mu176 => if vu170 = vu175 then ju3 Mu176 else some (0, Mu176) else none else none else none else none else if xu6 = 18 then if inb (z3_18 + 1) (g_n G) = true then if inb (z3_18 + 2) (g_n G) = true then (f_Uc_tell (g_xs G (Int32.toNatClampNeg (z3_18 + 1))) (g_xs G (Int32.toNatClampNeg (z3_18 + 2))) M_18).bind fun vu181 => lt vu181.1 fun vu182 => lt vu181.2 fun Mu183 => if inb (z3_18 + 1) (g_n G) = true then if inb (z3_18 + 2) (g_n G) = true then (f_Mo_tell (g_xs G (Int32.toNatClampNeg (z3_18 + 1))) (g_xs G (Int32.toNatClampNeg (z3_18 + 2))) Mu183).bind fun vu186 => lt vu186.1 fun vu187 => lt vu186.2 fun Mu188 => if vu182 = vu187 then ju3 Mu188 else some (0, Mu188) else none else none else none else none else if xu6 = 19 then (f_Uc_canBe Nu M_18).bind fun vu191 => lt vu191.1 fun vu192 => lt vu191.2 fun Mu193 => (f_Mo_canBe Nu Mu193).bind fun vu194 => lt vu194.1 fun vu195 => lt vu194.2 fun Mu196 => if vu192 = vu195 then ju3 Mu196 else some (0, Mu196) else if xu6 = 20 then if inb (z3_18 + 1) (g_n G) = true then if inb (z3_18 + 2) (g_n G) = true then (f_Uc_sure Nu (g_xs G (Int32.toNatClampNeg (z3_18 + 1))) (g_xs G (Int32.toNatClampNeg (z3_18 + 2))) M_18).bind fun vu201 => lt vu201.1 fun vu202 => lt vu201.2 fun Mu203 => if inb (z3_18 + 1) (g_n G) = true then if inb (z3_18 + 2) (g_n G) = true then (f_Mo_sure Nu (g_xs G (Int32.toNatClampNeg (z3_18 + 1))) (g_xs G (Int32.toNatClampNeg (z3_18 + 2))) Mu203).bind fun vu206 => lt vu206.1 fun vu207 => lt vu206.2 fun Mu208 => if vu202 = vu207 then ju3 Mu208 else some (0, Mu208) else none else none else none else none else if xu6 = 21 then (f_Uc_liar Nu M_18).bind fun vu211 => lt vu211.1 fun vu212 => lt vu211.2 fun Mu213 => (f_Mo_liar Nu Mu213).bind fun vu214 => lt vu214.1 fun vu215 => lt vu214.2 fun Mu216 => if vu212 = vu215 then ju3 Mu216 else some (0, Mu216) else if xu6 = 22 then if inb (z3_18 + 1) (g_n G) = true then if inb (z3_18 + 2) (g_n G) = true then (f_Uc_weight Nu (g_xs G (Int32.toNatClampNeg (z3_18 + 1))) (g_xs G (Int32.toNatClampNeg (z3_18 + 2))) M_18).bind fun vu221 => lt vu221.1 fun vu222 => lt vu221.2 fun Mu223 => if inb (z3_18 + 1) (g_n G) = true then if inb (z3_18 + 2) (g_n G) = true then (f_Mo_weight Nu (g_xs G (Int32.toNatClampNeg (z3_18 + 1))) (g_xs G (Int32.toNatClampNeg (z3_18 + 2))) Mu223).bind fun vu226 => lt vu226.1 fun vu227 => lt vu226.2 fun Mu228 => if vu222 = vu227 then ju3 Mu228 else some (0, Mu228) else none else none else none else none else if xu6 = 23 then if inb (z3_18 + 1) (g_n G) = true then if inb (z3_18 + 2) (g_n G) = true then (f_Uc_sides Nu (g_xs G (Int32.toNatClampNeg (z3_18 + 1))) (g_xs G (Int32.toNatClampNeg (z3_18 + 2))) M_18).bind fun vu233 => lt vu233.1 fun vu234 => lt vu233.2 fun Mu235 => if inb (z3_18 + 1) (g_n G) = true then if inb (z3_18 + 2) (g_n G) = true then (f_Mo_sides Nu (g_xs G (Int32.toNatClampNeg (z3_18 + 1))) (g_xs G (Int32.toNatClampNeg (z3_18 + 2)))).bind fun vu238 => if vu234 = vu238 then ju3 Mu235 else some (0, Mu235) else none else none else none else none else if xu6 = 24 then if inb (z3_18 + 1) (g_n G) = true then (f_Uc_sorts Nu (g_xs G (Int32.toNatClampNeg (z3_18 + 1))) M_18).bind fun vu242 => lt vu242.1 fun vu243 => lt vu242.2 fun Mu244 => if inb (z3_18 + 1) (g_n G) = true then (f_Mo_sorts Nu (g_xs G (Int32.toNatClampNeg (z3_18 + 1))) Mu244).bind fun vu246 => lt vu246.1 fun vu247 => lt vu246.2 fun Mu248 => if vu243 = vu247 then ju3 Mu248 else some (0, Mu248) else none else none else if xu6 = 25 then if inb (z3_18 + 1) (g_n G) = true then if inb (z3_18 + 2) (g_n G) = true then if inb (z3_18 + 3) (g_n G) = true then lt (fun (xu255 : Int32) => (f_Uc_write (g_xs G (Int32.toNatClampNeg (z3_18 + 1))) (g_xs G (Int32.toNatClampNeg (z3_18 + 2))) xu255 M_18).bind fun vu256 => lt vu256.1 fun vu257 => lt vu256.2 fun Mu258 => if inb (z3_18 + 1) (g_n G) = true then if inb (z3_18 + 2) (g_n G) = true then if inb (z3_18 + 3) (g_n G) = true then lt (fun (xu263 : Int32) => (f_Mo_write (g_xs G (Int32.toNatClampNeg (z3_18 + 1))) (g_xs G (Int32.toNatClampNeg (z3_18 + 2))) xu263 Mu258).bind fun vu264 => lt vu264.1 fun vu265 => lt vu264.2 fun Mu266 => if vu257 = vu265 then ju3 Mu266 else some (0, Mu266)) fun ju262 => if (g_xs G (Int32.toNatClampNeg (z3_18 + 3))) = 0 then ju262 0 else ju262 1 else none else none else none) fun ju254 => if (g_xs G (Int32.toNatClampNeg (z3_18 + 3))) = 0 then ju254 0 else ju254 1 else none else none else none else if xu6 = 26 then lt ((f_Uc_tear M_18).2) fun Mu271 => lt ((f_Mo_tear Mu271).2) fun Mu272 => if ((f_Uc_tear M_18).1) = ((f_Mo_tear Mu271).1) then ju3 Mu272 else some (0, Mu272) else if xu6 = 27 then if inb (z3_18 + 1) (g_n G) = true then (f_Uc_judge Nu (g_xs G (Int32.toNatClampNeg (z3_18 + 1))) M_18).bind fun vu276 => lt vu276.1 fun vu277 => lt vu276.2 fun Mu278 => if inb (z3_18 + 1) (g_n G) = true then (f_Mo_judge Nu (g_xs G (Int32.toNatClampNeg (z3_18 + 1))) Mu278).bind fun vu280 => lt vu280.1 fun vu281 => lt vu280.2 fun Mu282 => if vu277 = vu281 then ju3 Mu282 else some (0, Mu282) else none else none else if xu6 = 28 then if inb (z3_18 + 1) (g_n G) = true then (f_Uc_drift Nu (g_xs G (Int32.toNatClampNeg (z3_18 + 1))) M_18).bind fun vu286 => lt vu286.1 fun vu287 => lt vu286.2 fun Mu288 => if inb (z3_18 + 1) (g_n G) = true then (f_Mo_drift Nu (g_xs G (Int32.toNatClampNeg (z3_18 + 1))) Mu288).bind fun vu290 => lt vu290.1 fun vu291 => lt vu290.2 fun Mu292 => if vu287 = vu291 then ju3 Mu292 else some (0, Mu292) else none else none else if xu6 = 29 then if inb (z3_18 + 1) (g_n G) = true then lt ((f_Uc_seed (g_xs G (Int32.toNatClampNeg (z3_18 + 1))) M_18).2) fun Mu296 => if inb (z3_18 + 1) (g_n G) = true then lt ((f_Mo_seed (g_xs G (Int32.toNatClampNeg (z3_18 + 1))) Mu296).2) fun Mu298 => if ((f_Uc_seed (g_xs G (Int32.toNatClampNeg (z3_18 + 1))) M_18).1) = ((f_Mo_seed (g_xs G (Int32.toNatClampNeg (z3_18 + 1))) Mu296).1) then ju3 Mu298 else some (0, Mu298) else none else none else if xu6 = 30 then if inb (z3_18 + 1) (g_n G) = true then (f_Uc_keep Nu (g_xs G (Int32.toNatClampNeg (z3_18 + 1))) M_18).bind fun vu302 => lt vu302.1 fun vu303 => lt vu302.2 fun Mu304 => if inb (z3_18 + 1) (g_n G) = true then (f_Mo_keep Nu (g_xs G (Int32.toNatClampNeg (z3_18 + 1))) Mu304).bind fun vu306 => lt vu306.1 fun vu307 => lt vu306.2 fun Mu308 => if vu303 = vu307 then ju3 Mu308 else some (0, Mu308) else none else none else if xu6 = 31 then if inb (z3_18 + 1) (g_n G) = true then (f_Uc_goBack Nu (g_xs G (Int32.toNatClampNeg (z3_18 + 1))) M_18).bind fun vu312 => lt vu312.1 fun vu313 => lt vu312.2 fun Mu314 => if inb (z3_18 + 1) (g_n G) = true then (f_Mo_goBack Nu (g_xs G (Int32.toNatClampNeg (z3_18 + 1))) Mu314).bind fun vu316 => lt vu316.1 fun vu317 => lt vu316.2 fun Mu318 => if vu313 = vu317 then ju3 Mu318 else some (0, Mu318) else none else none else ju3 M_18 else none
def f_Lw_law (Nu : Nat) (G : GT) (Mu : Mm) : Option (Int32 × Mm) := L_Lw_law_18 Nu G Nu 0 Mu
theorem l_Lw_law_18 {G : GT} {ru : Int32 × Mm} (Nu : Nat)    : ∀ (nu : Nat) (z3_18 : Int32) (M_18 : Mm), L_Lw_law_18 Nu G nu z3_18 M_18 = some ru → SW G 27 c_Lw_law R_Lw 4 (some .boolean) (some (.int ru.1), ru.2) M_18 18 [some (.ref 200), some (.ref 0), some (.ref 49), some (.int z3_18)] []
  | 0, _, _, hf => by cases hf
  | nu + 1, z3_18, M_18, hf => by
    have ih := l_Lw_law_18 (G := G) (ru := ru) Nu   nu
    rw [L_Lw_law_18] at hf
    refine r_iload_n 3 d_Lw_law_18 rfl rfl ?_
    refine r_aload_n 0 d_Lw_law_19 rfl rfl ?_
    refine r_slen d_Lw_law_20 ?_
    refine r_iconst (v := 5) d_Lw_law_21 (by decide) ?_
    refine r_isub d_Lw_law_22 ?_
    refine r_icmp_gt 1070 d_Lw_law_23 (by decide) (fun qu1 => ?_) (fun qu1 => ?_)
    · replace hf := ip qu1 hf
      refine r_iconst (v := 1) d_Lw_law_1070 (by decide) ?_
      obtain rfl := Option.some.inj hf
      exact r_zreturn d_Lw_law_1071 rfl (Or.inr rfl) rfl
    · replace hf := im qu1 hf
      refine r_aload_n 0 d_Lw_law_26 rfl rfl ?_
      refine r_iload_n 3 d_Lw_law_27 rfl rfl ?_
      obtain ⟨qu2, hf⟩ := ck hf
      refine r_sld d_Lw_law_28 qu2 ?_
      refine r_bipush (v := 31) d_Lw_law_29 (by decide) ?_
      refine r_iand d_Lw_law_31 ?_
      obtain ⟨ju3, hju3, hf⟩ := lt_ex hf
      have Kju3 : ∀ (Mu4 : Mm), ju3 Mu4 = some ru → SW G 27 c_Lw_law R_Lw 4 (some .boolean) (some (.int ru.1), ru.2) Mu4 1064 [some (.ref 200), some (.ref 0), some (.ref 49), some (.int z3_18)] [] := by
        intro Mu4 hf
        rw [hju3] at hf
        obtain ⟨xu5, hxu5⟩ : ∃ y : Int32, y = z3_18 + 5 := ⟨_, rfl⟩
        replace hf := lt_of hxu5 hf
        refine r_iinc (lv' := [some (.ref 200), some (.ref 0), some (.ref 49), some (.int xu5)]) d_Lw_law_1064 rfl (by rw [hxu5]; rfl) (by decide) rfl ?_
        refine r_goto 18 d_Lw_law_1067 (by decide) ?_
        exact ih xu5 Mu4  hf
      refine nmI (fun xu6 hxu6 => ?_)
      replace hf := lt_of hxu6 hf
      by_cases qu7 : xu6 = 0
      · replace hf := ip qu7 hf
        refine r_tabIn 176 d_Lw_law_32 (by rw [qu7]; decide) (by rw [qu7]; decide) (by rw [qu7]; rfl) (by decide) ?_
        refine r_aload_n 1 d_Lw_law_176 rfl rfl ?_
        refine r_aload_n 0 d_Lw_law_177 rfl rfl ?_
        refine r_iload_n 3 d_Lw_law_178 rfl rfl ?_
        refine r_iconst (v := 1) d_Lw_law_179 (by decide) ?_
        refine r_iadd d_Lw_law_180 ?_
        obtain ⟨qu8, hf⟩ := ck hf
        refine r_sld d_Lw_law_181 qu8 ?_
        refine r_aload_n 0 d_Lw_law_182 rfl rfl ?_
        refine r_iload_n 3 d_Lw_law_183 rfl rfl ?_
        refine r_iconst (v := 2) d_Lw_law_184 (by decide) ?_
        refine r_iadd d_Lw_law_185 ?_
        obtain ⟨qu9, hf⟩ := ck hf
        refine r_sld d_Lw_law_186 qu9 ?_
        refine r_i2l d_Lw_law_187 ?_
        refine r_bipush (v := 32) d_Lw_law_188 (by decide) ?_
        refine r_lshl d_Lw_law_190 ?_
        refine r_aload_n 0 d_Lw_law_191 rfl rfl ?_
        refine r_iload_n 3 d_Lw_law_192 rfl rfl ?_
        refine r_iconst (v := 3) d_Lw_law_193 (by decide) ?_
        refine r_iadd d_Lw_law_194 ?_
        obtain ⟨qu10, hf⟩ := ck hf
        refine r_sld d_Lw_law_195 qu10 ?_
        refine r_i2l d_Lw_law_196 ?_
        refine r_ldc2_w d_Lw_law_197 k_Lw_13 ?_
        refine r_land d_Lw_law_200 ?_
        refine r_lor d_Lw_law_201 ?_
        obtain ⟨vu11, evu11, hf⟩ := bnd hf
        obtain ⟨vu12, Mu13⟩ := vu11
        replace hf := lt_of (rfl : vu12 = (vu12, Mu13).1) hf
        replace hf := lt_of (rfl : Mu13 = (vu12, Mu13).2) hf
        refine r_callV [.int (g_xs G (Int32.toNatClampNeg (z3_18 + 1))), .long ((((g_xs G (Int32.toNatClampNeg (z3_18 + 2))).toInt64) <<< (((32 : Int32)).toInt64 &&& 63)) ||| (((g_xs G (Int32.toNatClampNeg (z3_18 + 3))).toInt64) &&& 4294967295))] d_Lw_law_202 lk_Lw_15 sh_0 (cm_Uc_feed evu11) (by decide) rfl rfl (Nat.le_of_ble_eq_true rfl) ?_
        refine r_aload_n 2 d_Lw_law_205 rfl rfl ?_
        refine r_aload_n 0 d_Lw_law_206 rfl rfl ?_
        refine r_iload_n 3 d_Lw_law_207 rfl rfl ?_
        refine r_iconst (v := 1) d_Lw_law_208 (by decide) ?_
        refine r_iadd d_Lw_law_209 ?_
        obtain ⟨qu14, hf⟩ := ck hf
        refine r_sld d_Lw_law_210 qu14 ?_
        refine r_aload_n 0 d_Lw_law_211 rfl rfl ?_
        refine r_iload_n 3 d_Lw_law_212 rfl rfl ?_
        refine r_iconst (v := 2) d_Lw_law_213 (by decide) ?_
        refine r_iadd d_Lw_law_214 ?_
        obtain ⟨qu15, hf⟩ := ck hf
        refine r_sld d_Lw_law_215 qu15 ?_
        refine r_i2l d_Lw_law_216 ?_
        refine r_bipush (v := 32) d_Lw_law_217 (by decide) ?_
        refine r_lshl d_Lw_law_219 ?_
        refine r_aload_n 0 d_Lw_law_220 rfl rfl ?_
        refine r_iload_n 3 d_Lw_law_221 rfl rfl ?_
        refine r_iconst (v := 3) d_Lw_law_222 (by decide) ?_
        refine r_iadd d_Lw_law_223 ?_
        obtain ⟨qu16, hf⟩ := ck hf
        refine r_sld d_Lw_law_224 qu16 ?_
        refine r_i2l d_Lw_law_225 ?_
        refine r_ldc2_w d_Lw_law_226 k_Lw_13 ?_
        refine r_land d_Lw_law_229 ?_
        refine r_lor d_Lw_law_230 ?_
        obtain ⟨vu17, evu17, hf⟩ := bnd hf
        obtain ⟨vu18, Mu19⟩ := vu17
        replace hf := lt_of (rfl : vu18 = (vu18, Mu19).1) hf
        replace hf := lt_of (rfl : Mu19 = (vu18, Mu19).2) hf
        refine r_callV [.int (g_xs G (Int32.toNatClampNeg (z3_18 + 1))), .long ((((g_xs G (Int32.toNatClampNeg (z3_18 + 2))).toInt64) <<< (((32 : Int32)).toInt64 &&& 63)) ||| (((g_xs G (Int32.toNatClampNeg (z3_18 + 3))).toInt64) &&& 4294967295))] d_Lw_law_231 lk_Lw_19 sh_49 (cm_Mo_feed evu17) (by decide) rfl rfl (Nat.le_of_ble_eq_true rfl) ?_
        refine r_icmp_eq 1064 d_Lw_law_234 (by decide) (fun qu20 => ?_) (fun qu20 => ?_)
        · replace hf := ip qu20 hf
          exact Kju3 Mu19  hf
        · replace hf := im qu20 hf
          refine r_iconst (v := 0) d_Lw_law_237 (by decide) ?_
          obtain rfl := Option.some.inj hf
          exact r_zreturn d_Lw_law_238 rfl (Or.inl rfl) rfl
      replace hf := im qu7 hf
      by_cases qu21 : xu6 = 1
      · replace hf := ip qu21 hf
        refine r_tabIn 239 d_Lw_law_32 (by rw [qu21]; decide) (by rw [qu21]; decide) (by rw [qu21]; rfl) (by decide) ?_
        refine r_aload_n 1 d_Lw_law_239 rfl rfl ?_
        obtain ⟨vu22, evu22, hf⟩ := bnd hf
        obtain ⟨vu23, Mu24⟩ := vu22
        replace hf := lt_of (rfl : vu23 = (vu23, Mu24).1) hf
        replace hf := lt_of (rfl : Mu24 = (vu23, Mu24).2) hf
        refine r_callV [] d_Lw_law_240 lk_Lw_20 sh_0 (cm_Uc_town evu22) (by decide) rfl rfl (Nat.le_of_ble_eq_true rfl) ?_
        refine r_aload_n 2 d_Lw_law_243 rfl rfl ?_
        obtain ⟨vu25, evu25, hf⟩ := bnd hf
        obtain ⟨vu26, Mu27⟩ := vu25
        replace hf := lt_of (rfl : vu26 = (vu26, Mu27).1) hf
        replace hf := lt_of (rfl : Mu27 = (vu26, Mu27).2) hf
        refine r_callV [] d_Lw_law_244 lk_Lw_24 sh_49 (cm_Mo_town evu25) (by decide) rfl rfl (Nat.le_of_ble_eq_true rfl) ?_
        refine r_icmp_eq 1064 d_Lw_law_247 (by decide) (fun qu28 => ?_) (fun qu28 => ?_)
        · replace hf := ip qu28 hf
          exact Kju3 Mu27  hf
        · replace hf := im qu28 hf
          refine r_iconst (v := 0) d_Lw_law_250 (by decide) ?_
          obtain rfl := Option.some.inj hf
          exact r_zreturn d_Lw_law_251 rfl (Or.inl rfl) rfl
      replace hf := im qu21 hf
      by_cases qu29 : xu6 = 2
      · replace hf := ip qu29 hf
        refine r_tabIn 252 d_Lw_law_32 (by rw [qu29]; decide) (by rw [qu29]; decide) (by rw [qu29]; rfl) (by decide) ?_
        refine r_aload_n 1 d_Lw_law_252 rfl rfl ?_
        refine r_callV [] d_Lw_law_253 lk_Lw_25 sh_0 (cm_Uc_fault M_18) (by decide) rfl rfl (Nat.le_of_ble_eq_true rfl) ?_
        refine r_aload_n 2 d_Lw_law_256 rfl rfl ?_
        refine r_callV [] d_Lw_law_257 lk_Lw_28 sh_49 (cm_Mo_fault M_18) (by decide) rfl rfl (Nat.le_of_ble_eq_true rfl) ?_
        refine r_icmp_eq 1064 d_Lw_law_260 (by decide) (fun qu30 => ?_) (fun qu30 => ?_)
        · replace hf := ip qu30 hf
          exact Kju3 M_18  hf
        · replace hf := im qu30 hf
          refine r_iconst (v := 0) d_Lw_law_263 (by decide) ?_
          obtain rfl := Option.some.inj hf
          exact r_zreturn d_Lw_law_264 rfl (Or.inl rfl) rfl
      replace hf := im qu29 hf
      by_cases qu31 : xu6 = 3
      · replace hf := ip qu31 hf
        refine r_tabIn 265 d_Lw_law_32 (by rw [qu31]; decide) (by rw [qu31]; decide) (by rw [qu31]; rfl) (by decide) ?_
        refine r_aload_n 1 d_Lw_law_265 rfl rfl ?_
        refine r_aload_n 0 d_Lw_law_266 rfl rfl ?_
        refine r_iload_n 3 d_Lw_law_267 rfl rfl ?_
        refine r_iconst (v := 1) d_Lw_law_268 (by decide) ?_
        refine r_iadd d_Lw_law_269 ?_
        obtain ⟨qu32, hf⟩ := ck hf
        refine r_sld d_Lw_law_270 qu32 ?_
        obtain ⟨vu33, evu33, hf⟩ := bnd hf
        refine r_callV [.int (g_xs G (Int32.toNatClampNeg (z3_18 + 1)))] d_Lw_law_271 lk_Lw_29 sh_0 (cm_Uc_told evu33) (by decide) rfl rfl (Nat.le_of_ble_eq_true rfl) ?_
        refine r_aload_n 2 d_Lw_law_274 rfl rfl ?_
        refine r_aload_n 0 d_Lw_law_275 rfl rfl ?_
        refine r_iload_n 3 d_Lw_law_276 rfl rfl ?_
        refine r_iconst (v := 1) d_Lw_law_277 (by decide) ?_
        refine r_iadd d_Lw_law_278 ?_
        obtain ⟨qu34, hf⟩ := ck hf
        refine r_sld d_Lw_law_279 qu34 ?_
        obtain ⟨vu35, evu35, hf⟩ := bnd hf
        obtain ⟨vu36, Mu37⟩ := vu35
        replace hf := lt_of (rfl : vu36 = (vu36, Mu37).1) hf
        replace hf := lt_of (rfl : Mu37 = (vu36, Mu37).2) hf
        refine r_callV [.int (g_xs G (Int32.toNatClampNeg (z3_18 + 1)))] d_Lw_law_280 lk_Lw_33 sh_49 (cm_Mo_told evu35) (by decide) rfl rfl (Nat.le_of_ble_eq_true rfl) ?_
        refine r_icmp_eq 1064 d_Lw_law_283 (by decide) (fun qu38 => ?_) (fun qu38 => ?_)
        · replace hf := ip qu38 hf
          exact Kju3 Mu37  hf
        · replace hf := im qu38 hf
          refine r_iconst (v := 0) d_Lw_law_286 (by decide) ?_
          obtain rfl := Option.some.inj hf
          exact r_zreturn d_Lw_law_287 rfl (Or.inl rfl) rfl
      replace hf := im qu31 hf
      by_cases qu39 : xu6 = 4
      · replace hf := ip qu39 hf
        refine r_tabIn 288 d_Lw_law_32 (by rw [qu39]; decide) (by rw [qu39]; decide) (by rw [qu39]; rfl) (by decide) ?_
        refine r_aload_n 1 d_Lw_law_288 rfl rfl ?_
        refine r_aload_n 0 d_Lw_law_289 rfl rfl ?_
        refine r_iload_n 3 d_Lw_law_290 rfl rfl ?_
        refine r_iconst (v := 1) d_Lw_law_291 (by decide) ?_
        refine r_iadd d_Lw_law_292 ?_
        obtain ⟨qu40, hf⟩ := ck hf
        refine r_sld d_Lw_law_293 qu40 ?_
        obtain ⟨vu41, evu41, hf⟩ := bnd hf
        refine r_callV [.int (g_xs G (Int32.toNatClampNeg (z3_18 + 1)))] d_Lw_law_294 lk_Lw_34 sh_0 (cm_Uc_count evu41) (by decide) rfl rfl (Nat.le_of_ble_eq_true rfl) ?_
        refine r_aload_n 2 d_Lw_law_297 rfl rfl ?_
        refine r_aload_n 0 d_Lw_law_298 rfl rfl ?_
        refine r_iload_n 3 d_Lw_law_299 rfl rfl ?_
        refine r_iconst (v := 1) d_Lw_law_300 (by decide) ?_
        refine r_iadd d_Lw_law_301 ?_
        obtain ⟨qu42, hf⟩ := ck hf
        refine r_sld d_Lw_law_302 qu42 ?_
        obtain ⟨vu43, evu43, hf⟩ := bnd hf
        refine r_callV [.int (g_xs G (Int32.toNatClampNeg (z3_18 + 1)))] d_Lw_law_303 lk_Lw_37 sh_49 (cm_Mo_count evu43) (by decide) rfl rfl (Nat.le_of_ble_eq_true rfl) ?_
        refine r_icmp_eq 1064 d_Lw_law_306 (by decide) (fun qu44 => ?_) (fun qu44 => ?_)
        · replace hf := ip qu44 hf
          exact Kju3 M_18  hf
        · replace hf := im qu44 hf
          refine r_iconst (v := 0) d_Lw_law_309 (by decide) ?_
          obtain rfl := Option.some.inj hf
          exact r_zreturn d_Lw_law_310 rfl (Or.inl rfl) rfl
      replace hf := im qu39 hf
      by_cases qu45 : xu6 = 5
      · replace hf := ip qu45 hf
        refine r_tabIn 311 d_Lw_law_32 (by rw [qu45]; decide) (by rw [qu45]; decide) (by rw [qu45]; rfl) (by decide) ?_
        refine r_aload_n 1 d_Lw_law_311 rfl rfl ?_
        refine r_aload_n 0 d_Lw_law_312 rfl rfl ?_
        refine r_iload_n 3 d_Lw_law_313 rfl rfl ?_
        refine r_iconst (v := 1) d_Lw_law_314 (by decide) ?_
        refine r_iadd d_Lw_law_315 ?_
        obtain ⟨qu46, hf⟩ := ck hf
        refine r_sld d_Lw_law_316 qu46 ?_
        obtain ⟨vu47, evu47, hf⟩ := bnd hf
        refine r_callV [.int (g_xs G (Int32.toNatClampNeg (z3_18 + 1)))] d_Lw_law_317 lk_Lw_38 sh_0 (cm_Uc_friends evu47) (by decide) rfl rfl (Nat.le_of_ble_eq_true rfl) ?_
        refine r_aload_n 2 d_Lw_law_320 rfl rfl ?_
        refine r_aload_n 0 d_Lw_law_321 rfl rfl ?_
        refine r_iload_n 3 d_Lw_law_322 rfl rfl ?_
        refine r_iconst (v := 1) d_Lw_law_323 (by decide) ?_
        refine r_iadd d_Lw_law_324 ?_
        obtain ⟨qu48, hf⟩ := ck hf
        refine r_sld d_Lw_law_325 qu48 ?_
        obtain ⟨vu49, evu49, hf⟩ := bnd hf
        refine r_callV [.int (g_xs G (Int32.toNatClampNeg (z3_18 + 1)))] d_Lw_law_326 lk_Lw_41 sh_49 (cm_Mo_friends evu49) (by decide) rfl rfl (Nat.le_of_ble_eq_true rfl) ?_
        refine r_icmp_eq 1064 d_Lw_law_329 (by decide) (fun qu50 => ?_) (fun qu50 => ?_)
        · replace hf := ip qu50 hf
          exact Kju3 M_18  hf
        · replace hf := im qu50 hf
          refine r_iconst (v := 0) d_Lw_law_332 (by decide) ?_
          obtain rfl := Option.some.inj hf
          exact r_zreturn d_Lw_law_333 rfl (Or.inl rfl) rfl
      replace hf := im qu45 hf
      by_cases qu51 : xu6 = 6
      · replace hf := ip qu51 hf
        refine r_tabIn 334 d_Lw_law_32 (by rw [qu51]; decide) (by rw [qu51]; decide) (by rw [qu51]; rfl) (by decide) ?_
        refine r_aload_n 1 d_Lw_law_334 rfl rfl ?_
        refine r_aload_n 0 d_Lw_law_335 rfl rfl ?_
        refine r_iload_n 3 d_Lw_law_336 rfl rfl ?_
        refine r_iconst (v := 1) d_Lw_law_337 (by decide) ?_
        refine r_iadd d_Lw_law_338 ?_
        obtain ⟨qu52, hf⟩ := ck hf
        refine r_sld d_Lw_law_339 qu52 ?_
        obtain ⟨vu53, evu53, hf⟩ := bnd hf
        refine r_callV [.int (g_xs G (Int32.toNatClampNeg (z3_18 + 1)))] d_Lw_law_340 lk_Lw_42 sh_0 (cm_Uc_alike evu53) (by decide) rfl rfl (Nat.le_of_ble_eq_true rfl) ?_
        refine r_aload_n 2 d_Lw_law_343 rfl rfl ?_
        refine r_aload_n 0 d_Lw_law_344 rfl rfl ?_
        refine r_iload_n 3 d_Lw_law_345 rfl rfl ?_
        refine r_iconst (v := 1) d_Lw_law_346 (by decide) ?_
        refine r_iadd d_Lw_law_347 ?_
        obtain ⟨qu54, hf⟩ := ck hf
        refine r_sld d_Lw_law_348 qu54 ?_
        obtain ⟨vu55, evu55, hf⟩ := bnd hf
        obtain ⟨vu56, Mu57⟩ := vu55
        replace hf := lt_of (rfl : vu56 = (vu56, Mu57).1) hf
        replace hf := lt_of (rfl : Mu57 = (vu56, Mu57).2) hf
        refine r_callV [.int (g_xs G (Int32.toNatClampNeg (z3_18 + 1)))] d_Lw_law_349 lk_Lw_45 sh_49 (cm_Mo_alike evu55) (by decide) rfl rfl (Nat.le_of_ble_eq_true rfl) ?_
        refine r_icmp_eq 1064 d_Lw_law_352 (by decide) (fun qu58 => ?_) (fun qu58 => ?_)
        · replace hf := ip qu58 hf
          exact Kju3 Mu57  hf
        · replace hf := im qu58 hf
          refine r_iconst (v := 0) d_Lw_law_355 (by decide) ?_
          obtain rfl := Option.some.inj hf
          exact r_zreturn d_Lw_law_356 rfl (Or.inl rfl) rfl
      replace hf := im qu51 hf
      by_cases qu59 : xu6 = 7
      · replace hf := ip qu59 hf
        refine r_tabIn 357 d_Lw_law_32 (by rw [qu59]; decide) (by rw [qu59]; decide) (by rw [qu59]; rfl) (by decide) ?_
        refine r_aload_n 1 d_Lw_law_357 rfl rfl ?_
        refine r_aload_n 0 d_Lw_law_358 rfl rfl ?_
        refine r_iload_n 3 d_Lw_law_359 rfl rfl ?_
        refine r_iconst (v := 1) d_Lw_law_360 (by decide) ?_
        refine r_iadd d_Lw_law_361 ?_
        obtain ⟨qu60, hf⟩ := ck hf
        refine r_sld d_Lw_law_362 qu60 ?_
        refine r_aload_n 0 d_Lw_law_363 rfl rfl ?_
        refine r_iload_n 3 d_Lw_law_364 rfl rfl ?_
        refine r_iconst (v := 2) d_Lw_law_365 (by decide) ?_
        refine r_iadd d_Lw_law_366 ?_
        obtain ⟨qu61, hf⟩ := ck hf
        refine r_sld d_Lw_law_367 qu61 ?_
        refine r_callV [.int (g_xs G (Int32.toNatClampNeg (z3_18 + 1))), .int (g_xs G (Int32.toNatClampNeg (z3_18 + 2)))] d_Lw_law_368 lk_Lw_46 sh_0 (cm_Uc_pair (g_xs G (Int32.toNatClampNeg (z3_18 + 1))) (g_xs G (Int32.toNatClampNeg (z3_18 + 2))) M_18) (by decide) rfl rfl (Nat.le_of_ble_eq_true rfl) ?_
        refine r_aload_n 2 d_Lw_law_371 rfl rfl ?_
        refine r_aload_n 0 d_Lw_law_372 rfl rfl ?_
        refine r_iload_n 3 d_Lw_law_373 rfl rfl ?_
        refine r_iconst (v := 1) d_Lw_law_374 (by decide) ?_
        refine r_iadd d_Lw_law_375 ?_
        obtain ⟨qu62, hf⟩ := ck hf
        refine r_sld d_Lw_law_376 qu62 ?_
        refine r_aload_n 0 d_Lw_law_377 rfl rfl ?_
        refine r_iload_n 3 d_Lw_law_378 rfl rfl ?_
        refine r_iconst (v := 2) d_Lw_law_379 (by decide) ?_
        refine r_iadd d_Lw_law_380 ?_
        obtain ⟨qu63, hf⟩ := ck hf
        refine r_sld d_Lw_law_381 qu63 ?_
        obtain ⟨vu64, evu64, hf⟩ := bnd hf
        refine r_callV [.int (g_xs G (Int32.toNatClampNeg (z3_18 + 1))), .int (g_xs G (Int32.toNatClampNeg (z3_18 + 2)))] d_Lw_law_382 lk_Lw_50 sh_49 (cm_Mo_pair evu64) (by decide) rfl rfl (Nat.le_of_ble_eq_true rfl) ?_
        refine r_icmp_eq 1064 d_Lw_law_385 (by decide) (fun qu65 => ?_) (fun qu65 => ?_)
        · replace hf := ip qu65 hf
          exact Kju3 M_18  hf
        · replace hf := im qu65 hf
          refine r_iconst (v := 0) d_Lw_law_388 (by decide) ?_
          obtain rfl := Option.some.inj hf
          exact r_zreturn d_Lw_law_389 rfl (Or.inl rfl) rfl
      replace hf := im qu59 hf
      by_cases qu66 : xu6 = 8
      · replace hf := ip qu66 hf
        refine r_tabIn 390 d_Lw_law_32 (by rw [qu66]; decide) (by rw [qu66]; decide) (by rw [qu66]; rfl) (by decide) ?_
        refine r_aload_n 1 d_Lw_law_390 rfl rfl ?_
        refine r_aload_n 0 d_Lw_law_391 rfl rfl ?_
        refine r_iload_n 3 d_Lw_law_392 rfl rfl ?_
        refine r_iconst (v := 1) d_Lw_law_393 (by decide) ?_
        refine r_iadd d_Lw_law_394 ?_
        obtain ⟨qu67, hf⟩ := ck hf
        refine r_sld d_Lw_law_395 qu67 ?_
        refine r_aload_n 0 d_Lw_law_396 rfl rfl ?_
        refine r_iload_n 3 d_Lw_law_397 rfl rfl ?_
        refine r_iconst (v := 2) d_Lw_law_398 (by decide) ?_
        refine r_iadd d_Lw_law_399 ?_
        obtain ⟨qu68, hf⟩ := ck hf
        refine r_sld d_Lw_law_400 qu68 ?_
        refine r_aload_n 0 d_Lw_law_401 rfl rfl ?_
        refine r_iload_n 3 d_Lw_law_402 rfl rfl ?_
        refine r_iconst (v := 3) d_Lw_law_403 (by decide) ?_
        refine r_iadd d_Lw_law_404 ?_
        obtain ⟨qu69, hf⟩ := ck hf
        refine r_sld d_Lw_law_405 qu69 ?_
        obtain ⟨ju70, hju70, hf⟩ := lt_ex hf
        have Kju70 : ∀ (xu71 : Int32), ju70 xu71 = some ru → SW G 27 c_Lw_law R_Lw 4 (some .boolean) (some (.int ru.1), ru.2) M_18 414 [some (.ref 200), some (.ref 0), some (.ref 49), some (.int z3_18)] [.int xu71, .int (g_xs G (Int32.toNatClampNeg (z3_18 + 2))), .int (g_xs G (Int32.toNatClampNeg (z3_18 + 1))), .ref 0] := by
          intro xu71 hf
          rw [hju70] at hf
          obtain ⟨vu72, evu72, hf⟩ := bnd hf
          obtain ⟨vu73, Mu74⟩ := vu72
          replace hf := lt_of (rfl : vu73 = (vu73, Mu74).1) hf
          replace hf := lt_of (rfl : Mu74 = (vu73, Mu74).2) hf
          refine r_callV [.int (g_xs G (Int32.toNatClampNeg (z3_18 + 1))), .int (g_xs G (Int32.toNatClampNeg (z3_18 + 2))), .int xu71] d_Lw_law_414 lk_Lw_51 sh_0 (cm_Uc_tie evu72) (by decide) rfl rfl (Nat.le_of_ble_eq_true rfl) ?_
          refine r_aload_n 2 d_Lw_law_417 rfl rfl ?_
          refine r_aload_n 0 d_Lw_law_418 rfl rfl ?_
          refine r_iload_n 3 d_Lw_law_419 rfl rfl ?_
          refine r_iconst (v := 1) d_Lw_law_420 (by decide) ?_
          refine r_iadd d_Lw_law_421 ?_
          obtain ⟨qu75, hf⟩ := ck hf
          refine r_sld d_Lw_law_422 qu75 ?_
          refine r_aload_n 0 d_Lw_law_423 rfl rfl ?_
          refine r_iload_n 3 d_Lw_law_424 rfl rfl ?_
          refine r_iconst (v := 2) d_Lw_law_425 (by decide) ?_
          refine r_iadd d_Lw_law_426 ?_
          obtain ⟨qu76, hf⟩ := ck hf
          refine r_sld d_Lw_law_427 qu76 ?_
          refine r_aload_n 0 d_Lw_law_428 rfl rfl ?_
          refine r_iload_n 3 d_Lw_law_429 rfl rfl ?_
          refine r_iconst (v := 3) d_Lw_law_430 (by decide) ?_
          refine r_iadd d_Lw_law_431 ?_
          obtain ⟨qu77, hf⟩ := ck hf
          refine r_sld d_Lw_law_432 qu77 ?_
          obtain ⟨ju78, hju78, hf⟩ := lt_ex hf
          have Kju78 : ∀ (xu79 : Int32), ju78 xu79 = some ru → SW G 27 c_Lw_law R_Lw 4 (some .boolean) (some (.int ru.1), ru.2) Mu74 441 [some (.ref 200), some (.ref 0), some (.ref 49), some (.int z3_18)] [.int xu79, .int (g_xs G (Int32.toNatClampNeg (z3_18 + 2))), .int (g_xs G (Int32.toNatClampNeg (z3_18 + 1))), .ref 49, .int vu73] := by
            intro xu79 hf
            rw [hju78] at hf
            obtain ⟨vu80, evu80, hf⟩ := bnd hf
            obtain ⟨vu81, Mu82⟩ := vu80
            replace hf := lt_of (rfl : vu81 = (vu81, Mu82).1) hf
            replace hf := lt_of (rfl : Mu82 = (vu81, Mu82).2) hf
            refine r_callV [.int (g_xs G (Int32.toNatClampNeg (z3_18 + 1))), .int (g_xs G (Int32.toNatClampNeg (z3_18 + 2))), .int xu79] d_Lw_law_441 lk_Lw_55 sh_49 (cm_Mo_tie evu80) (by decide) rfl rfl (Nat.le_of_ble_eq_true rfl) ?_
            refine r_icmp_eq 1064 d_Lw_law_444 (by decide) (fun qu83 => ?_) (fun qu83 => ?_)
            · replace hf := ip qu83 hf
              exact Kju3 Mu82  hf
            · replace hf := im qu83 hf
              refine r_iconst (v := 0) d_Lw_law_447 (by decide) ?_
              obtain rfl := Option.some.inj hf
              exact r_zreturn d_Lw_law_448 rfl (Or.inl rfl) rfl
          refine r_if_eq 440 d_Lw_law_433 (by decide) (fun qu84 => ?_) (fun qu84 => ?_)
          · replace hf := ip qu84 hf
            refine r_iconst (v := 0) d_Lw_law_440 (by decide) ?_
            exact Kju78 0  hf
          · replace hf := im qu84 hf
            refine r_iconst (v := 1) d_Lw_law_436 (by decide) ?_
            refine r_goto 441 d_Lw_law_437 (by decide) ?_
            exact Kju78 1  hf
        refine r_if_eq 413 d_Lw_law_406 (by decide) (fun qu85 => ?_) (fun qu85 => ?_)
        · replace hf := ip qu85 hf
          refine r_iconst (v := 0) d_Lw_law_413 (by decide) ?_
          exact Kju70 0  hf
        · replace hf := im qu85 hf
          refine r_iconst (v := 1) d_Lw_law_409 (by decide) ?_
          refine r_goto 414 d_Lw_law_410 (by decide) ?_
          exact Kju70 1  hf
      replace hf := im qu66 hf
      by_cases qu86 : xu6 = 9
      · replace hf := ip qu86 hf
        refine r_tabIn 449 d_Lw_law_32 (by rw [qu86]; decide) (by rw [qu86]; decide) (by rw [qu86]; rfl) (by decide) ?_
        refine r_aload_n 1 d_Lw_law_449 rfl rfl ?_
        refine r_aload_n 0 d_Lw_law_450 rfl rfl ?_
        refine r_iload_n 3 d_Lw_law_451 rfl rfl ?_
        refine r_iconst (v := 1) d_Lw_law_452 (by decide) ?_
        refine r_iadd d_Lw_law_453 ?_
        obtain ⟨qu87, hf⟩ := ck hf
        refine r_sld d_Lw_law_454 qu87 ?_
        refine r_aload_n 0 d_Lw_law_455 rfl rfl ?_
        refine r_iload_n 3 d_Lw_law_456 rfl rfl ?_
        refine r_iconst (v := 2) d_Lw_law_457 (by decide) ?_
        refine r_iadd d_Lw_law_458 ?_
        obtain ⟨qu88, hf⟩ := ck hf
        refine r_sld d_Lw_law_459 qu88 ?_
        refine r_aload_n 0 d_Lw_law_460 rfl rfl ?_
        refine r_iload_n 3 d_Lw_law_461 rfl rfl ?_
        refine r_iconst (v := 3) d_Lw_law_462 (by decide) ?_
        refine r_iadd d_Lw_law_463 ?_
        obtain ⟨qu89, hf⟩ := ck hf
        refine r_sld d_Lw_law_464 qu89 ?_
        obtain ⟨vu90, evu90, hf⟩ := bnd hf
        obtain ⟨vu91, Mu92⟩ := vu90
        replace hf := lt_of (rfl : vu91 = (vu91, Mu92).1) hf
        replace hf := lt_of (rfl : Mu92 = (vu91, Mu92).2) hf
        refine r_callV [.int (g_xs G (Int32.toNatClampNeg (z3_18 + 1))), .int (g_xs G (Int32.toNatClampNeg (z3_18 + 2))), .int (g_xs G (Int32.toNatClampNeg (z3_18 + 3)))] d_Lw_law_465 lk_Lw_56 sh_0 (cm_Uc_bar evu90) (by decide) rfl rfl (Nat.le_of_ble_eq_true rfl) ?_
        refine r_aload_n 2 d_Lw_law_468 rfl rfl ?_
        refine r_aload_n 0 d_Lw_law_469 rfl rfl ?_
        refine r_iload_n 3 d_Lw_law_470 rfl rfl ?_
        refine r_iconst (v := 1) d_Lw_law_471 (by decide) ?_
        refine r_iadd d_Lw_law_472 ?_
        obtain ⟨qu93, hf⟩ := ck hf
        refine r_sld d_Lw_law_473 qu93 ?_
        refine r_aload_n 0 d_Lw_law_474 rfl rfl ?_
        refine r_iload_n 3 d_Lw_law_475 rfl rfl ?_
        refine r_iconst (v := 2) d_Lw_law_476 (by decide) ?_
        refine r_iadd d_Lw_law_477 ?_
        obtain ⟨qu94, hf⟩ := ck hf
        refine r_sld d_Lw_law_478 qu94 ?_
        refine r_aload_n 0 d_Lw_law_479 rfl rfl ?_
        refine r_iload_n 3 d_Lw_law_480 rfl rfl ?_
        refine r_iconst (v := 3) d_Lw_law_481 (by decide) ?_
        refine r_iadd d_Lw_law_482 ?_
        obtain ⟨qu95, hf⟩ := ck hf
        refine r_sld d_Lw_law_483 qu95 ?_
        obtain ⟨vu96, evu96, hf⟩ := bnd hf
        obtain ⟨vu97, Mu98⟩ := vu96
        replace hf := lt_of (rfl : vu97 = (vu97, Mu98).1) hf
        replace hf := lt_of (rfl : Mu98 = (vu97, Mu98).2) hf
        refine r_callV [.int (g_xs G (Int32.toNatClampNeg (z3_18 + 1))), .int (g_xs G (Int32.toNatClampNeg (z3_18 + 2))), .int (g_xs G (Int32.toNatClampNeg (z3_18 + 3)))] d_Lw_law_484 lk_Lw_60 sh_49 (cm_Mo_bar evu96) (by decide) rfl rfl (Nat.le_of_ble_eq_true rfl) ?_
        refine r_icmp_eq 1064 d_Lw_law_487 (by decide) (fun qu99 => ?_) (fun qu99 => ?_)
        · replace hf := ip qu99 hf
          exact Kju3 Mu98  hf
        · replace hf := im qu99 hf
          refine r_iconst (v := 0) d_Lw_law_490 (by decide) ?_
          obtain rfl := Option.some.inj hf
          exact r_zreturn d_Lw_law_491 rfl (Or.inl rfl) rfl
      replace hf := im qu86 hf
      by_cases qu100 : xu6 = 10
      · replace hf := ip qu100 hf
        refine r_tabIn 492 d_Lw_law_32 (by rw [qu100]; decide) (by rw [qu100]; decide) (by rw [qu100]; rfl) (by decide) ?_
        refine r_aload_n 1 d_Lw_law_492 rfl rfl ?_
        obtain ⟨vu101, evu101, hf⟩ := bnd hf
        obtain ⟨vu102, Mu103⟩ := vu101
        replace hf := lt_of (rfl : vu102 = (vu102, Mu103).1) hf
        replace hf := lt_of (rfl : Mu103 = (vu102, Mu103).2) hf
        refine r_callV [] d_Lw_law_493 lk_Lw_61 sh_0 (cm_Uc_birth evu101) (by decide) rfl rfl (Nat.le_of_ble_eq_true rfl) ?_
        refine r_aload_n 2 d_Lw_law_496 rfl rfl ?_
        obtain ⟨vu104, evu104, hf⟩ := bnd hf
        obtain ⟨vu105, Mu106⟩ := vu104
        replace hf := lt_of (rfl : vu105 = (vu105, Mu106).1) hf
        replace hf := lt_of (rfl : Mu106 = (vu105, Mu106).2) hf
        refine r_callV [] d_Lw_law_497 lk_Lw_64 sh_49 (cm_Mo_birth evu104) (by decide) rfl rfl (Nat.le_of_ble_eq_true rfl) ?_
        refine r_icmp_eq 1064 d_Lw_law_500 (by decide) (fun qu107 => ?_) (fun qu107 => ?_)
        · replace hf := ip qu107 hf
          exact Kju3 Mu106  hf
        · replace hf := im qu107 hf
          refine r_iconst (v := 0) d_Lw_law_503 (by decide) ?_
          obtain rfl := Option.some.inj hf
          exact r_zreturn d_Lw_law_504 rfl (Or.inl rfl) rfl
      replace hf := im qu100 hf
      by_cases qu108 : xu6 = 11
      · replace hf := ip qu108 hf
        refine r_tabIn 505 d_Lw_law_32 (by rw [qu108]; decide) (by rw [qu108]; decide) (by rw [qu108]; rfl) (by decide) ?_
        refine r_aload_n 1 d_Lw_law_505 rfl rfl ?_
        refine r_aload_n 0 d_Lw_law_506 rfl rfl ?_
        refine r_iload_n 3 d_Lw_law_507 rfl rfl ?_
        refine r_iconst (v := 1) d_Lw_law_508 (by decide) ?_
        refine r_iadd d_Lw_law_509 ?_
        obtain ⟨qu109, hf⟩ := ck hf
        refine r_sld d_Lw_law_510 qu109 ?_
        obtain ⟨vu110, evu110, hf⟩ := bnd hf
        obtain ⟨vu111, Mu112⟩ := vu110
        replace hf := lt_of (rfl : vu111 = (vu111, Mu112).1) hf
        replace hf := lt_of (rfl : Mu112 = (vu111, Mu112).2) hf
        refine r_callV [.int (g_xs G (Int32.toNatClampNeg (z3_18 + 1)))] d_Lw_law_511 lk_Lw_65 sh_0 (cm_Uc_death evu110) (by decide) rfl rfl (Nat.le_of_ble_eq_true rfl) ?_
        refine r_aload_n 2 d_Lw_law_514 rfl rfl ?_
        refine r_aload_n 0 d_Lw_law_515 rfl rfl ?_
        refine r_iload_n 3 d_Lw_law_516 rfl rfl ?_
        refine r_iconst (v := 1) d_Lw_law_517 (by decide) ?_
        refine r_iadd d_Lw_law_518 ?_
        obtain ⟨qu113, hf⟩ := ck hf
        refine r_sld d_Lw_law_519 qu113 ?_
        obtain ⟨vu114, evu114, hf⟩ := bnd hf
        obtain ⟨vu115, Mu116⟩ := vu114
        replace hf := lt_of (rfl : vu115 = (vu115, Mu116).1) hf
        replace hf := lt_of (rfl : Mu116 = (vu115, Mu116).2) hf
        refine r_callV [.int (g_xs G (Int32.toNatClampNeg (z3_18 + 1)))] d_Lw_law_520 lk_Lw_68 sh_49 (cm_Mo_death evu114) (by decide) rfl rfl (Nat.le_of_ble_eq_true rfl) ?_
        refine r_icmp_eq 1064 d_Lw_law_523 (by decide) (fun qu117 => ?_) (fun qu117 => ?_)
        · replace hf := ip qu117 hf
          exact Kju3 Mu116  hf
        · replace hf := im qu117 hf
          refine r_iconst (v := 0) d_Lw_law_526 (by decide) ?_
          obtain rfl := Option.some.inj hf
          exact r_zreturn d_Lw_law_527 rfl (Or.inl rfl) rfl
      replace hf := im qu108 hf
      by_cases qu118 : xu6 = 12
      · replace hf := ip qu118 hf
        refine r_tabIn 528 d_Lw_law_32 (by rw [qu118]; decide) (by rw [qu118]; decide) (by rw [qu118]; rfl) (by decide) ?_
        refine r_aload_n 1 d_Lw_law_528 rfl rfl ?_
        refine r_aload_n 0 d_Lw_law_529 rfl rfl ?_
        refine r_iload_n 3 d_Lw_law_530 rfl rfl ?_
        refine r_iconst (v := 1) d_Lw_law_531 (by decide) ?_
        refine r_iadd d_Lw_law_532 ?_
        obtain ⟨qu119, hf⟩ := ck hf
        refine r_sld d_Lw_law_533 qu119 ?_
        refine r_aload_n 0 d_Lw_law_534 rfl rfl ?_
        refine r_iload_n 3 d_Lw_law_535 rfl rfl ?_
        refine r_iconst (v := 2) d_Lw_law_536 (by decide) ?_
        refine r_iadd d_Lw_law_537 ?_
        obtain ⟨qu120, hf⟩ := ck hf
        refine r_sld d_Lw_law_538 qu120 ?_
        refine r_aload_n 0 d_Lw_law_539 rfl rfl ?_
        refine r_iload_n 3 d_Lw_law_540 rfl rfl ?_
        refine r_iconst (v := 3) d_Lw_law_541 (by decide) ?_
        refine r_iadd d_Lw_law_542 ?_
        obtain ⟨qu121, hf⟩ := ck hf
        refine r_sld d_Lw_law_543 qu121 ?_
        refine r_aload_n 0 d_Lw_law_544 rfl rfl ?_
        refine r_iload_n 3 d_Lw_law_545 rfl rfl ?_
        refine r_iconst (v := 4) d_Lw_law_546 (by decide) ?_
        refine r_iadd d_Lw_law_547 ?_
        obtain ⟨qu122, hf⟩ := ck hf
        refine r_sld d_Lw_law_548 qu122 ?_
        refine r_callV [.int (g_xs G (Int32.toNatClampNeg (z3_18 + 1))), .int (g_xs G (Int32.toNatClampNeg (z3_18 + 2))), .int (g_xs G (Int32.toNatClampNeg (z3_18 + 3))), .int (g_xs G (Int32.toNatClampNeg (z3_18 + 4)))] d_Lw_law_549 lk_Lw_69 sh_0 (cm_Uc_made (g_xs G (Int32.toNatClampNeg (z3_18 + 1))) (g_xs G (Int32.toNatClampNeg (z3_18 + 2))) (g_xs G (Int32.toNatClampNeg (z3_18 + 3))) (g_xs G (Int32.toNatClampNeg (z3_18 + 4))) M_18) (by decide) rfl rfl (Nat.le_of_ble_eq_true rfl) ?_
        refine r_aload_n 2 d_Lw_law_552 rfl rfl ?_
        refine r_aload_n 0 d_Lw_law_553 rfl rfl ?_
        refine r_iload_n 3 d_Lw_law_554 rfl rfl ?_
        refine r_iconst (v := 1) d_Lw_law_555 (by decide) ?_
        refine r_iadd d_Lw_law_556 ?_
        obtain ⟨qu123, hf⟩ := ck hf
        refine r_sld d_Lw_law_557 qu123 ?_
        refine r_aload_n 0 d_Lw_law_558 rfl rfl ?_
        refine r_iload_n 3 d_Lw_law_559 rfl rfl ?_
        refine r_iconst (v := 2) d_Lw_law_560 (by decide) ?_
        refine r_iadd d_Lw_law_561 ?_
        obtain ⟨qu124, hf⟩ := ck hf
        refine r_sld d_Lw_law_562 qu124 ?_
        refine r_aload_n 0 d_Lw_law_563 rfl rfl ?_
        refine r_iload_n 3 d_Lw_law_564 rfl rfl ?_
        refine r_iconst (v := 3) d_Lw_law_565 (by decide) ?_
        refine r_iadd d_Lw_law_566 ?_
        obtain ⟨qu125, hf⟩ := ck hf
        refine r_sld d_Lw_law_567 qu125 ?_
        refine r_aload_n 0 d_Lw_law_568 rfl rfl ?_
        refine r_iload_n 3 d_Lw_law_569 rfl rfl ?_
        refine r_iconst (v := 4) d_Lw_law_570 (by decide) ?_
        refine r_iadd d_Lw_law_571 ?_
        obtain ⟨qu126, hf⟩ := ck hf
        refine r_sld d_Lw_law_572 qu126 ?_
        refine r_callV [.int (g_xs G (Int32.toNatClampNeg (z3_18 + 1))), .int (g_xs G (Int32.toNatClampNeg (z3_18 + 2))), .int (g_xs G (Int32.toNatClampNeg (z3_18 + 3))), .int (g_xs G (Int32.toNatClampNeg (z3_18 + 4)))] d_Lw_law_573 lk_Lw_73 sh_49 (cm_Mo_made (g_xs G (Int32.toNatClampNeg (z3_18 + 1))) (g_xs G (Int32.toNatClampNeg (z3_18 + 2))) (g_xs G (Int32.toNatClampNeg (z3_18 + 3))) (g_xs G (Int32.toNatClampNeg (z3_18 + 4))) M_18) (by decide) rfl rfl (Nat.le_of_ble_eq_true rfl) ?_
        refine r_icmp_eq 1064 d_Lw_law_576 (by decide) (fun qu127 => ?_) (fun qu127 => ?_)
        · replace hf := ip qu127 hf
          exact Kju3 M_18  hf
        · replace hf := im qu127 hf
          refine r_iconst (v := 0) d_Lw_law_579 (by decide) ?_
          obtain rfl := Option.some.inj hf
          exact r_zreturn d_Lw_law_580 rfl (Or.inl rfl) rfl
      replace hf := im qu118 hf
      by_cases qu128 : xu6 = 13
      · replace hf := ip qu128 hf
        refine r_tabIn 581 d_Lw_law_32 (by rw [qu128]; decide) (by rw [qu128]; decide) (by rw [qu128]; rfl) (by decide) ?_
        refine r_aload_n 1 d_Lw_law_581 rfl rfl ?_
        refine r_aload_n 0 d_Lw_law_582 rfl rfl ?_
        refine r_iload_n 3 d_Lw_law_583 rfl rfl ?_
        refine r_iconst (v := 1) d_Lw_law_584 (by decide) ?_
        refine r_iadd d_Lw_law_585 ?_
        obtain ⟨qu129, hf⟩ := ck hf
        refine r_sld d_Lw_law_586 qu129 ?_
        obtain ⟨vu130, evu130, hf⟩ := bnd hf
        obtain ⟨vu131, Mu132⟩ := vu130
        replace hf := lt_of (rfl : vu131 = (vu131, Mu132).1) hf
        replace hf := lt_of (rfl : Mu132 = (vu131, Mu132).2) hf
        refine r_callV [.int (g_xs G (Int32.toNatClampNeg (z3_18 + 1)))] d_Lw_law_587 lk_Lw_74 sh_0 (cm_Uc_good evu130) (by decide) rfl rfl (Nat.le_of_ble_eq_true rfl) ?_
        refine r_aload_n 2 d_Lw_law_590 rfl rfl ?_
        refine r_aload_n 0 d_Lw_law_591 rfl rfl ?_
        refine r_iload_n 3 d_Lw_law_592 rfl rfl ?_
        refine r_iconst (v := 1) d_Lw_law_593 (by decide) ?_
        refine r_iadd d_Lw_law_594 ?_
        obtain ⟨qu133, hf⟩ := ck hf
        refine r_sld d_Lw_law_595 qu133 ?_
        obtain ⟨vu134, evu134, hf⟩ := bnd hf
        obtain ⟨vu135, Mu136⟩ := vu134
        replace hf := lt_of (rfl : vu135 = (vu135, Mu136).1) hf
        replace hf := lt_of (rfl : Mu136 = (vu135, Mu136).2) hf
        refine r_callV [.int (g_xs G (Int32.toNatClampNeg (z3_18 + 1)))] d_Lw_law_596 lk_Lw_77 sh_49 (cm_Mo_good evu134) (by decide) rfl rfl (Nat.le_of_ble_eq_true rfl) ?_
        refine r_icmp_eq 1064 d_Lw_law_599 (by decide) (fun qu137 => ?_) (fun qu137 => ?_)
        · replace hf := ip qu137 hf
          exact Kju3 Mu136  hf
        · replace hf := im qu137 hf
          refine r_iconst (v := 0) d_Lw_law_602 (by decide) ?_
          obtain rfl := Option.some.inj hf
          exact r_zreturn d_Lw_law_603 rfl (Or.inl rfl) rfl
      replace hf := im qu128 hf
      by_cases qu138 : xu6 = 14
      · replace hf := ip qu138 hf
        refine r_tabIn 604 d_Lw_law_32 (by rw [qu138]; decide) (by rw [qu138]; decide) (by rw [qu138]; rfl) (by decide) ?_
        refine r_aload_n 1 d_Lw_law_604 rfl rfl ?_
        obtain ⟨vu139, evu139, hf⟩ := bnd hf
        obtain ⟨vu140, Mu141⟩ := vu139
        replace hf := lt_of (rfl : vu140 = (vu140, Mu141).1) hf
        replace hf := lt_of (rfl : Mu141 = (vu140, Mu141).2) hf
        refine r_callV [] d_Lw_law_605 lk_Lw_78 sh_0 (cm_Uc_born evu139) (by decide) rfl rfl (Nat.le_of_ble_eq_true rfl) ?_
        refine r_aload_n 2 d_Lw_law_608 rfl rfl ?_
        obtain ⟨vu142, evu142, hf⟩ := bnd hf
        obtain ⟨vu143, Mu144⟩ := vu142
        replace hf := lt_of (rfl : vu143 = (vu143, Mu144).1) hf
        replace hf := lt_of (rfl : Mu144 = (vu143, Mu144).2) hf
        refine r_callV [] d_Lw_law_609 lk_Lw_81 sh_49 (cm_Mo_born evu142) (by decide) rfl rfl (Nat.le_of_ble_eq_true rfl) ?_
        refine r_icmp_eq 1064 d_Lw_law_612 (by decide) (fun qu145 => ?_) (fun qu145 => ?_)
        · replace hf := ip qu145 hf
          exact Kju3 Mu144  hf
        · replace hf := im qu145 hf
          refine r_iconst (v := 0) d_Lw_law_615 (by decide) ?_
          obtain rfl := Option.some.inj hf
          exact r_zreturn d_Lw_law_616 rfl (Or.inl rfl) rfl
      replace hf := im qu138 hf
      by_cases qu146 : xu6 = 15
      · replace hf := ip qu146 hf
        refine r_tabIn 617 d_Lw_law_32 (by rw [qu146]; decide) (by rw [qu146]; decide) (by rw [qu146]; rfl) (by decide) ?_
        refine r_aload_n 1 d_Lw_law_617 rfl rfl ?_
        refine r_aload_n 0 d_Lw_law_618 rfl rfl ?_
        refine r_iload_n 3 d_Lw_law_619 rfl rfl ?_
        refine r_iconst (v := 1) d_Lw_law_620 (by decide) ?_
        refine r_iadd d_Lw_law_621 ?_
        obtain ⟨qu147, hf⟩ := ck hf
        refine r_sld d_Lw_law_622 qu147 ?_
        obtain ⟨vu148, evu148, hf⟩ := bnd hf
        obtain ⟨vu149, Mu150⟩ := vu148
        replace hf := lt_of (rfl : vu149 = (vu149, Mu150).1) hf
        replace hf := lt_of (rfl : Mu150 = (vu149, Mu150).2) hf
        refine r_callV [.int (g_xs G (Int32.toNatClampNeg (z3_18 + 1)))] d_Lw_law_623 lk_Lw_82 sh_0 (cm_Uc_dies evu148) (by decide) rfl rfl (Nat.le_of_ble_eq_true rfl) ?_
        refine r_aload_n 2 d_Lw_law_626 rfl rfl ?_
        refine r_aload_n 0 d_Lw_law_627 rfl rfl ?_
        refine r_iload_n 3 d_Lw_law_628 rfl rfl ?_
        refine r_iconst (v := 1) d_Lw_law_629 (by decide) ?_
        refine r_iadd d_Lw_law_630 ?_
        obtain ⟨qu151, hf⟩ := ck hf
        refine r_sld d_Lw_law_631 qu151 ?_
        obtain ⟨vu152, evu152, hf⟩ := bnd hf
        obtain ⟨vu153, Mu154⟩ := vu152
        replace hf := lt_of (rfl : vu153 = (vu153, Mu154).1) hf
        replace hf := lt_of (rfl : Mu154 = (vu153, Mu154).2) hf
        refine r_callV [.int (g_xs G (Int32.toNatClampNeg (z3_18 + 1)))] d_Lw_law_632 lk_Lw_85 sh_49 (cm_Mo_dies evu152) (by decide) rfl rfl (Nat.le_of_ble_eq_true rfl) ?_
        refine r_icmp_eq 1064 d_Lw_law_635 (by decide) (fun qu155 => ?_) (fun qu155 => ?_)
        · replace hf := ip qu155 hf
          exact Kju3 Mu154  hf
        · replace hf := im qu155 hf
          refine r_iconst (v := 0) d_Lw_law_638 (by decide) ?_
          obtain rfl := Option.some.inj hf
          exact r_zreturn d_Lw_law_639 rfl (Or.inl rfl) rfl
      replace hf := im qu146 hf
      by_cases qu156 : xu6 = 16
      · replace hf := ip qu156 hf
        refine r_tabIn 640 d_Lw_law_32 (by rw [qu156]; decide) (by rw [qu156]; decide) (by rw [qu156]; rfl) (by decide) ?_
        refine r_aload_n 1 d_Lw_law_640 rfl rfl ?_
        refine r_aload_n 0 d_Lw_law_641 rfl rfl ?_
        refine r_iload_n 3 d_Lw_law_642 rfl rfl ?_
        refine r_iconst (v := 1) d_Lw_law_643 (by decide) ?_
        refine r_iadd d_Lw_law_644 ?_
        obtain ⟨qu157, hf⟩ := ck hf
        refine r_sld d_Lw_law_645 qu157 ?_
        obtain ⟨vu158, evu158, hf⟩ := bnd hf
        obtain ⟨vu159, Mu160⟩ := vu158
        replace hf := lt_of (rfl : vu159 = (vu159, Mu160).1) hf
        replace hf := lt_of (rfl : Mu160 = (vu159, Mu160).2) hf
        refine r_callV [.int (g_xs G (Int32.toNatClampNeg (z3_18 + 1)))] d_Lw_law_646 lk_Lw_86 sh_0 (cm_Uc_nearest evu158) (by decide) rfl rfl (Nat.le_of_ble_eq_true rfl) ?_
        refine r_aload_n 2 d_Lw_law_649 rfl rfl ?_
        refine r_aload_n 0 d_Lw_law_650 rfl rfl ?_
        refine r_iload_n 3 d_Lw_law_651 rfl rfl ?_
        refine r_iconst (v := 1) d_Lw_law_652 (by decide) ?_
        refine r_iadd d_Lw_law_653 ?_
        obtain ⟨qu161, hf⟩ := ck hf
        refine r_sld d_Lw_law_654 qu161 ?_
        obtain ⟨vu162, evu162, hf⟩ := bnd hf
        obtain ⟨vu163, Mu164⟩ := vu162
        replace hf := lt_of (rfl : vu163 = (vu163, Mu164).1) hf
        replace hf := lt_of (rfl : Mu164 = (vu163, Mu164).2) hf
        refine r_callV [.int (g_xs G (Int32.toNatClampNeg (z3_18 + 1)))] d_Lw_law_655 lk_Lw_89 sh_49 (cm_Mo_nearest evu162) (by decide) rfl rfl (Nat.le_of_ble_eq_true rfl) ?_
        refine r_icmp_eq 1064 d_Lw_law_658 (by decide) (fun qu165 => ?_) (fun qu165 => ?_)
        · replace hf := ip qu165 hf
          exact Kju3 Mu164  hf
        · replace hf := im qu165 hf
          refine r_iconst (v := 0) d_Lw_law_661 (by decide) ?_
          obtain rfl := Option.some.inj hf
          exact r_zreturn d_Lw_law_662 rfl (Or.inl rfl) rfl
      replace hf := im qu156 hf
      by_cases qu166 : xu6 = 17
      · replace hf := ip qu166 hf
        refine r_tabIn 663 d_Lw_law_32 (by rw [qu166]; decide) (by rw [qu166]; decide) (by rw [qu166]; rfl) (by decide) ?_
        refine r_aload_n 1 d_Lw_law_663 rfl rfl ?_
        refine r_aload_n 0 d_Lw_law_664 rfl rfl ?_
        refine r_iload_n 3 d_Lw_law_665 rfl rfl ?_
        refine r_iconst (v := 1) d_Lw_law_666 (by decide) ?_
        refine r_iadd d_Lw_law_667 ?_
        obtain ⟨qu167, hf⟩ := ck hf
        refine r_sld d_Lw_law_668 qu167 ?_
        refine r_aload_n 0 d_Lw_law_669 rfl rfl ?_
        refine r_iload_n 3 d_Lw_law_670 rfl rfl ?_
        refine r_iconst (v := 2) d_Lw_law_671 (by decide) ?_
        refine r_iadd d_Lw_law_672 ?_
        obtain ⟨qu168, hf⟩ := ck hf
        refine r_sld d_Lw_law_673 qu168 ?_
        obtain ⟨vu169, evu169, hf⟩ := bnd hf
        obtain ⟨vu170, Mu171⟩ := vu169
        replace hf := lt_of (rfl : vu170 = (vu170, Mu171).1) hf
        replace hf := lt_of (rfl : Mu171 = (vu170, Mu171).2) hf
        refine r_callV [.int (g_xs G (Int32.toNatClampNeg (z3_18 + 1))), .int (g_xs G (Int32.toNatClampNeg (z3_18 + 2)))] d_Lw_law_674 lk_Lw_90 sh_0 (cm_Uc_even evu169) (by decide) rfl rfl (Nat.le_of_ble_eq_true rfl) ?_
        refine r_aload_n 2 d_Lw_law_677 rfl rfl ?_
        refine r_aload_n 0 d_Lw_law_678 rfl rfl ?_
        refine r_iload_n 3 d_Lw_law_679 rfl rfl ?_
        refine r_iconst (v := 1) d_Lw_law_680 (by decide) ?_
        refine r_iadd d_Lw_law_681 ?_
        obtain ⟨qu172, hf⟩ := ck hf
        refine r_sld d_Lw_law_682 qu172 ?_
        refine r_aload_n 0 d_Lw_law_683 rfl rfl ?_
        refine r_iload_n 3 d_Lw_law_684 rfl rfl ?_
        refine r_iconst (v := 2) d_Lw_law_685 (by decide) ?_
        refine r_iadd d_Lw_law_686 ?_
        obtain ⟨qu173, hf⟩ := ck hf
        refine r_sld d_Lw_law_687 qu173 ?_
        obtain ⟨vu174, evu174, hf⟩ := bnd hf
        obtain ⟨vu175, Mu176⟩ := vu174
        replace hf := lt_of (rfl : vu175 = (vu175, Mu176).1) hf
        replace hf := lt_of (rfl : Mu176 = (vu175, Mu176).2) hf
        refine r_callV [.int (g_xs G (Int32.toNatClampNeg (z3_18 + 1))), .int (g_xs G (Int32.toNatClampNeg (z3_18 + 2)))] d_Lw_law_688 lk_Lw_93 sh_49 (cm_Mo_even evu174) (by decide) rfl rfl (Nat.le_of_ble_eq_true rfl) ?_
        refine r_icmp_eq 1064 d_Lw_law_691 (by decide) (fun qu177 => ?_) (fun qu177 => ?_)
        · replace hf := ip qu177 hf
          exact Kju3 Mu176  hf
        · replace hf := im qu177 hf
          refine r_iconst (v := 0) d_Lw_law_694 (by decide) ?_
          obtain rfl := Option.some.inj hf
          exact r_zreturn d_Lw_law_695 rfl (Or.inl rfl) rfl
      replace hf := im qu166 hf
      by_cases qu178 : xu6 = 18
      · replace hf := ip qu178 hf
        refine r_tabIn 696 d_Lw_law_32 (by rw [qu178]; decide) (by rw [qu178]; decide) (by rw [qu178]; rfl) (by decide) ?_
        refine r_aload_n 1 d_Lw_law_696 rfl rfl ?_
        refine r_aload_n 0 d_Lw_law_697 rfl rfl ?_
        refine r_iload_n 3 d_Lw_law_698 rfl rfl ?_
        refine r_iconst (v := 1) d_Lw_law_699 (by decide) ?_
        refine r_iadd d_Lw_law_700 ?_
        obtain ⟨qu179, hf⟩ := ck hf
        refine r_sld d_Lw_law_701 qu179 ?_
        refine r_aload_n 0 d_Lw_law_702 rfl rfl ?_
        refine r_iload_n 3 d_Lw_law_703 rfl rfl ?_
        refine r_iconst (v := 2) d_Lw_law_704 (by decide) ?_
        refine r_iadd d_Lw_law_705 ?_
        obtain ⟨qu180, hf⟩ := ck hf
        refine r_sld d_Lw_law_706 qu180 ?_
        obtain ⟨vu181, evu181, hf⟩ := bnd hf
        obtain ⟨vu182, Mu183⟩ := vu181
        replace hf := lt_of (rfl : vu182 = (vu182, Mu183).1) hf
        replace hf := lt_of (rfl : Mu183 = (vu182, Mu183).2) hf
        refine r_callV [.int (g_xs G (Int32.toNatClampNeg (z3_18 + 1))), .int (g_xs G (Int32.toNatClampNeg (z3_18 + 2)))] d_Lw_law_707 lk_Lw_94 sh_0 (cm_Uc_tell evu181) (by decide) rfl rfl (Nat.le_of_ble_eq_true rfl) ?_
        refine r_aload_n 2 d_Lw_law_710 rfl rfl ?_
        refine r_aload_n 0 d_Lw_law_711 rfl rfl ?_
        refine r_iload_n 3 d_Lw_law_712 rfl rfl ?_
        refine r_iconst (v := 1) d_Lw_law_713 (by decide) ?_
        refine r_iadd d_Lw_law_714 ?_
        obtain ⟨qu184, hf⟩ := ck hf
        refine r_sld d_Lw_law_715 qu184 ?_
        refine r_aload_n 0 d_Lw_law_716 rfl rfl ?_
        refine r_iload_n 3 d_Lw_law_717 rfl rfl ?_
        refine r_iconst (v := 2) d_Lw_law_718 (by decide) ?_
        refine r_iadd d_Lw_law_719 ?_
        obtain ⟨qu185, hf⟩ := ck hf
        refine r_sld d_Lw_law_720 qu185 ?_
        obtain ⟨vu186, evu186, hf⟩ := bnd hf
        obtain ⟨vu187, Mu188⟩ := vu186
        replace hf := lt_of (rfl : vu187 = (vu187, Mu188).1) hf
        replace hf := lt_of (rfl : Mu188 = (vu187, Mu188).2) hf
        refine r_callV [.int (g_xs G (Int32.toNatClampNeg (z3_18 + 1))), .int (g_xs G (Int32.toNatClampNeg (z3_18 + 2)))] d_Lw_law_721 lk_Lw_97 sh_49 (cm_Mo_tell evu186) (by decide) rfl rfl (Nat.le_of_ble_eq_true rfl) ?_
        refine r_icmp_eq 1064 d_Lw_law_724 (by decide) (fun qu189 => ?_) (fun qu189 => ?_)
        · replace hf := ip qu189 hf
          exact Kju3 Mu188  hf
        · replace hf := im qu189 hf
          refine r_iconst (v := 0) d_Lw_law_727 (by decide) ?_
          obtain rfl := Option.some.inj hf
          exact r_zreturn d_Lw_law_728 rfl (Or.inl rfl) rfl
      replace hf := im qu178 hf
      by_cases qu190 : xu6 = 19
      · replace hf := ip qu190 hf
        refine r_tabIn 729 d_Lw_law_32 (by rw [qu190]; decide) (by rw [qu190]; decide) (by rw [qu190]; rfl) (by decide) ?_
        refine r_aload_n 1 d_Lw_law_729 rfl rfl ?_
        obtain ⟨vu191, evu191, hf⟩ := bnd hf
        obtain ⟨vu192, Mu193⟩ := vu191
        replace hf := lt_of (rfl : vu192 = (vu192, Mu193).1) hf
        replace hf := lt_of (rfl : Mu193 = (vu192, Mu193).2) hf
        refine r_callV [] d_Lw_law_730 lk_Lw_98 sh_0 (cm_Uc_canBe evu191) (by decide) rfl rfl (Nat.le_of_ble_eq_true rfl) ?_
        refine r_aload_n 2 d_Lw_law_733 rfl rfl ?_
        obtain ⟨vu194, evu194, hf⟩ := bnd hf
        obtain ⟨vu195, Mu196⟩ := vu194
        replace hf := lt_of (rfl : vu195 = (vu195, Mu196).1) hf
        replace hf := lt_of (rfl : Mu196 = (vu195, Mu196).2) hf
        refine r_callV [] d_Lw_law_734 lk_Lw_101 sh_49 (cm_Mo_canBe evu194) (by decide) rfl rfl (Nat.le_of_ble_eq_true rfl) ?_
        refine r_icmp_eq 1064 d_Lw_law_737 (by decide) (fun qu197 => ?_) (fun qu197 => ?_)
        · replace hf := ip qu197 hf
          exact Kju3 Mu196  hf
        · replace hf := im qu197 hf
          refine r_iconst (v := 0) d_Lw_law_740 (by decide) ?_
          obtain rfl := Option.some.inj hf
          exact r_zreturn d_Lw_law_741 rfl (Or.inl rfl) rfl
      replace hf := im qu190 hf
      by_cases qu198 : xu6 = 20
      · replace hf := ip qu198 hf
        refine r_tabIn 742 d_Lw_law_32 (by rw [qu198]; decide) (by rw [qu198]; decide) (by rw [qu198]; rfl) (by decide) ?_
        refine r_aload_n 1 d_Lw_law_742 rfl rfl ?_
        refine r_aload_n 0 d_Lw_law_743 rfl rfl ?_
        refine r_iload_n 3 d_Lw_law_744 rfl rfl ?_
        refine r_iconst (v := 1) d_Lw_law_745 (by decide) ?_
        refine r_iadd d_Lw_law_746 ?_
        obtain ⟨qu199, hf⟩ := ck hf
        refine r_sld d_Lw_law_747 qu199 ?_
        refine r_aload_n 0 d_Lw_law_748 rfl rfl ?_
        refine r_iload_n 3 d_Lw_law_749 rfl rfl ?_
        refine r_iconst (v := 2) d_Lw_law_750 (by decide) ?_
        refine r_iadd d_Lw_law_751 ?_
        obtain ⟨qu200, hf⟩ := ck hf
        refine r_sld d_Lw_law_752 qu200 ?_
        obtain ⟨vu201, evu201, hf⟩ := bnd hf
        obtain ⟨vu202, Mu203⟩ := vu201
        replace hf := lt_of (rfl : vu202 = (vu202, Mu203).1) hf
        replace hf := lt_of (rfl : Mu203 = (vu202, Mu203).2) hf
        refine r_callV [.int (g_xs G (Int32.toNatClampNeg (z3_18 + 1))), .int (g_xs G (Int32.toNatClampNeg (z3_18 + 2)))] d_Lw_law_753 lk_Lw_102 sh_0 (cm_Uc_sure evu201) (by decide) rfl rfl (Nat.le_of_ble_eq_true rfl) ?_
        refine r_aload_n 2 d_Lw_law_756 rfl rfl ?_
        refine r_aload_n 0 d_Lw_law_757 rfl rfl ?_
        refine r_iload_n 3 d_Lw_law_758 rfl rfl ?_
        refine r_iconst (v := 1) d_Lw_law_759 (by decide) ?_
        refine r_iadd d_Lw_law_760 ?_
        obtain ⟨qu204, hf⟩ := ck hf
        refine r_sld d_Lw_law_761 qu204 ?_
        refine r_aload_n 0 d_Lw_law_762 rfl rfl ?_
        refine r_iload_n 3 d_Lw_law_763 rfl rfl ?_
        refine r_iconst (v := 2) d_Lw_law_764 (by decide) ?_
        refine r_iadd d_Lw_law_765 ?_
        obtain ⟨qu205, hf⟩ := ck hf
        refine r_sld d_Lw_law_766 qu205 ?_
        obtain ⟨vu206, evu206, hf⟩ := bnd hf
        obtain ⟨vu207, Mu208⟩ := vu206
        replace hf := lt_of (rfl : vu207 = (vu207, Mu208).1) hf
        replace hf := lt_of (rfl : Mu208 = (vu207, Mu208).2) hf
        refine r_callV [.int (g_xs G (Int32.toNatClampNeg (z3_18 + 1))), .int (g_xs G (Int32.toNatClampNeg (z3_18 + 2)))] d_Lw_law_767 lk_Lw_105 sh_49 (cm_Mo_sure evu206) (by decide) rfl rfl (Nat.le_of_ble_eq_true rfl) ?_
        refine r_icmp_eq 1064 d_Lw_law_770 (by decide) (fun qu209 => ?_) (fun qu209 => ?_)
        · replace hf := ip qu209 hf
          exact Kju3 Mu208  hf
        · replace hf := im qu209 hf
          refine r_iconst (v := 0) d_Lw_law_773 (by decide) ?_
          obtain rfl := Option.some.inj hf
          exact r_zreturn d_Lw_law_774 rfl (Or.inl rfl) rfl
      replace hf := im qu198 hf
      by_cases qu210 : xu6 = 21
      · replace hf := ip qu210 hf
        refine r_tabIn 775 d_Lw_law_32 (by rw [qu210]; decide) (by rw [qu210]; decide) (by rw [qu210]; rfl) (by decide) ?_
        refine r_aload_n 1 d_Lw_law_775 rfl rfl ?_
        obtain ⟨vu211, evu211, hf⟩ := bnd hf
        obtain ⟨vu212, Mu213⟩ := vu211
        replace hf := lt_of (rfl : vu212 = (vu212, Mu213).1) hf
        replace hf := lt_of (rfl : Mu213 = (vu212, Mu213).2) hf
        refine r_callV [] d_Lw_law_776 lk_Lw_106 sh_0 (cm_Uc_liar evu211) (by decide) rfl rfl (Nat.le_of_ble_eq_true rfl) ?_
        refine r_aload_n 2 d_Lw_law_779 rfl rfl ?_
        obtain ⟨vu214, evu214, hf⟩ := bnd hf
        obtain ⟨vu215, Mu216⟩ := vu214
        replace hf := lt_of (rfl : vu215 = (vu215, Mu216).1) hf
        replace hf := lt_of (rfl : Mu216 = (vu215, Mu216).2) hf
        refine r_callV [] d_Lw_law_780 lk_Lw_109 sh_49 (cm_Mo_liar evu214) (by decide) rfl rfl (Nat.le_of_ble_eq_true rfl) ?_
        refine r_icmp_eq 1064 d_Lw_law_783 (by decide) (fun qu217 => ?_) (fun qu217 => ?_)
        · replace hf := ip qu217 hf
          exact Kju3 Mu216  hf
        · replace hf := im qu217 hf
          refine r_iconst (v := 0) d_Lw_law_786 (by decide) ?_
          obtain rfl := Option.some.inj hf
          exact r_zreturn d_Lw_law_787 rfl (Or.inl rfl) rfl
      replace hf := im qu210 hf
      by_cases qu218 : xu6 = 22
      · replace hf := ip qu218 hf
        refine r_tabIn 788 d_Lw_law_32 (by rw [qu218]; decide) (by rw [qu218]; decide) (by rw [qu218]; rfl) (by decide) ?_
        refine r_aload_n 1 d_Lw_law_788 rfl rfl ?_
        refine r_aload_n 0 d_Lw_law_789 rfl rfl ?_
        refine r_iload_n 3 d_Lw_law_790 rfl rfl ?_
        refine r_iconst (v := 1) d_Lw_law_791 (by decide) ?_
        refine r_iadd d_Lw_law_792 ?_
        obtain ⟨qu219, hf⟩ := ck hf
        refine r_sld d_Lw_law_793 qu219 ?_
        refine r_aload_n 0 d_Lw_law_794 rfl rfl ?_
        refine r_iload_n 3 d_Lw_law_795 rfl rfl ?_
        refine r_iconst (v := 2) d_Lw_law_796 (by decide) ?_
        refine r_iadd d_Lw_law_797 ?_
        obtain ⟨qu220, hf⟩ := ck hf
        refine r_sld d_Lw_law_798 qu220 ?_
        obtain ⟨vu221, evu221, hf⟩ := bnd hf
        obtain ⟨vu222, Mu223⟩ := vu221
        replace hf := lt_of (rfl : vu222 = (vu222, Mu223).1) hf
        replace hf := lt_of (rfl : Mu223 = (vu222, Mu223).2) hf
        refine r_callV [.int (g_xs G (Int32.toNatClampNeg (z3_18 + 1))), .int (g_xs G (Int32.toNatClampNeg (z3_18 + 2)))] d_Lw_law_799 lk_Lw_110 sh_0 (cm_Uc_weight evu221) (by decide) rfl rfl (Nat.le_of_ble_eq_true rfl) ?_
        refine r_aload_n 2 d_Lw_law_802 rfl rfl ?_
        refine r_aload_n 0 d_Lw_law_803 rfl rfl ?_
        refine r_iload_n 3 d_Lw_law_804 rfl rfl ?_
        refine r_iconst (v := 1) d_Lw_law_805 (by decide) ?_
        refine r_iadd d_Lw_law_806 ?_
        obtain ⟨qu224, hf⟩ := ck hf
        refine r_sld d_Lw_law_807 qu224 ?_
        refine r_aload_n 0 d_Lw_law_808 rfl rfl ?_
        refine r_iload_n 3 d_Lw_law_809 rfl rfl ?_
        refine r_iconst (v := 2) d_Lw_law_810 (by decide) ?_
        refine r_iadd d_Lw_law_811 ?_
        obtain ⟨qu225, hf⟩ := ck hf
        refine r_sld d_Lw_law_812 qu225 ?_
        obtain ⟨vu226, evu226, hf⟩ := bnd hf
        obtain ⟨vu227, Mu228⟩ := vu226
        replace hf := lt_of (rfl : vu227 = (vu227, Mu228).1) hf
        replace hf := lt_of (rfl : Mu228 = (vu227, Mu228).2) hf
        refine r_callV [.int (g_xs G (Int32.toNatClampNeg (z3_18 + 1))), .int (g_xs G (Int32.toNatClampNeg (z3_18 + 2)))] d_Lw_law_813 lk_Lw_113 sh_49 (cm_Mo_weight evu226) (by decide) rfl rfl (Nat.le_of_ble_eq_true rfl) ?_
        refine r_icmp_eq 1064 d_Lw_law_816 (by decide) (fun qu229 => ?_) (fun qu229 => ?_)
        · replace hf := ip qu229 hf
          exact Kju3 Mu228  hf
        · replace hf := im qu229 hf
          refine r_iconst (v := 0) d_Lw_law_819 (by decide) ?_
          obtain rfl := Option.some.inj hf
          exact r_zreturn d_Lw_law_820 rfl (Or.inl rfl) rfl
      replace hf := im qu218 hf
      by_cases qu230 : xu6 = 23
      · replace hf := ip qu230 hf
        refine r_tabIn 821 d_Lw_law_32 (by rw [qu230]; decide) (by rw [qu230]; decide) (by rw [qu230]; rfl) (by decide) ?_
        refine r_aload_n 1 d_Lw_law_821 rfl rfl ?_
        refine r_aload_n 0 d_Lw_law_822 rfl rfl ?_
        refine r_iload_n 3 d_Lw_law_823 rfl rfl ?_
        refine r_iconst (v := 1) d_Lw_law_824 (by decide) ?_
        refine r_iadd d_Lw_law_825 ?_
        obtain ⟨qu231, hf⟩ := ck hf
        refine r_sld d_Lw_law_826 qu231 ?_
        refine r_aload_n 0 d_Lw_law_827 rfl rfl ?_
        refine r_iload_n 3 d_Lw_law_828 rfl rfl ?_
        refine r_iconst (v := 2) d_Lw_law_829 (by decide) ?_
        refine r_iadd d_Lw_law_830 ?_
        obtain ⟨qu232, hf⟩ := ck hf
        refine r_sld d_Lw_law_831 qu232 ?_
        obtain ⟨vu233, evu233, hf⟩ := bnd hf
        obtain ⟨vu234, Mu235⟩ := vu233
        replace hf := lt_of (rfl : vu234 = (vu234, Mu235).1) hf
        replace hf := lt_of (rfl : Mu235 = (vu234, Mu235).2) hf
        refine r_callV [.int (g_xs G (Int32.toNatClampNeg (z3_18 + 1))), .int (g_xs G (Int32.toNatClampNeg (z3_18 + 2)))] d_Lw_law_832 lk_Lw_114 sh_0 (cm_Uc_sides evu233) (by decide) rfl rfl (Nat.le_of_ble_eq_true rfl) ?_
        refine r_aload_n 2 d_Lw_law_835 rfl rfl ?_
        refine r_aload_n 0 d_Lw_law_836 rfl rfl ?_
        refine r_iload_n 3 d_Lw_law_837 rfl rfl ?_
        refine r_iconst (v := 1) d_Lw_law_838 (by decide) ?_
        refine r_iadd d_Lw_law_839 ?_
        obtain ⟨qu236, hf⟩ := ck hf
        refine r_sld d_Lw_law_840 qu236 ?_
        refine r_aload_n 0 d_Lw_law_841 rfl rfl ?_
        refine r_iload_n 3 d_Lw_law_842 rfl rfl ?_
        refine r_iconst (v := 2) d_Lw_law_843 (by decide) ?_
        refine r_iadd d_Lw_law_844 ?_
        obtain ⟨qu237, hf⟩ := ck hf
        refine r_sld d_Lw_law_845 qu237 ?_
        obtain ⟨vu238, evu238, hf⟩ := bnd hf
        refine r_callV [.int (g_xs G (Int32.toNatClampNeg (z3_18 + 1))), .int (g_xs G (Int32.toNatClampNeg (z3_18 + 2)))] d_Lw_law_846 lk_Lw_117 sh_49 (cm_Mo_sides evu238) (by decide) rfl rfl (Nat.le_of_ble_eq_true rfl) ?_
        refine r_icmp_eq 1064 d_Lw_law_849 (by decide) (fun qu239 => ?_) (fun qu239 => ?_)
        · replace hf := ip qu239 hf
          exact Kju3 Mu235  hf
        · replace hf := im qu239 hf
          refine r_iconst (v := 0) d_Lw_law_852 (by decide) ?_
          obtain rfl := Option.some.inj hf
          exact r_zreturn d_Lw_law_853 rfl (Or.inl rfl) rfl
      replace hf := im qu230 hf
      by_cases qu240 : xu6 = 24
      · replace hf := ip qu240 hf
        refine r_tabIn 854 d_Lw_law_32 (by rw [qu240]; decide) (by rw [qu240]; decide) (by rw [qu240]; rfl) (by decide) ?_
        refine r_aload_n 1 d_Lw_law_854 rfl rfl ?_
        refine r_aload_n 0 d_Lw_law_855 rfl rfl ?_
        refine r_iload_n 3 d_Lw_law_856 rfl rfl ?_
        refine r_iconst (v := 1) d_Lw_law_857 (by decide) ?_
        refine r_iadd d_Lw_law_858 ?_
        obtain ⟨qu241, hf⟩ := ck hf
        refine r_sld d_Lw_law_859 qu241 ?_
        obtain ⟨vu242, evu242, hf⟩ := bnd hf
        obtain ⟨vu243, Mu244⟩ := vu242
        replace hf := lt_of (rfl : vu243 = (vu243, Mu244).1) hf
        replace hf := lt_of (rfl : Mu244 = (vu243, Mu244).2) hf
        refine r_callV [.int (g_xs G (Int32.toNatClampNeg (z3_18 + 1)))] d_Lw_law_860 lk_Lw_118 sh_0 (cm_Uc_sorts evu242) (by decide) rfl rfl (Nat.le_of_ble_eq_true rfl) ?_
        refine r_aload_n 2 d_Lw_law_863 rfl rfl ?_
        refine r_aload_n 0 d_Lw_law_864 rfl rfl ?_
        refine r_iload_n 3 d_Lw_law_865 rfl rfl ?_
        refine r_iconst (v := 1) d_Lw_law_866 (by decide) ?_
        refine r_iadd d_Lw_law_867 ?_
        obtain ⟨qu245, hf⟩ := ck hf
        refine r_sld d_Lw_law_868 qu245 ?_
        obtain ⟨vu246, evu246, hf⟩ := bnd hf
        obtain ⟨vu247, Mu248⟩ := vu246
        replace hf := lt_of (rfl : vu247 = (vu247, Mu248).1) hf
        replace hf := lt_of (rfl : Mu248 = (vu247, Mu248).2) hf
        refine r_callV [.int (g_xs G (Int32.toNatClampNeg (z3_18 + 1)))] d_Lw_law_869 lk_Lw_121 sh_49 (cm_Mo_sorts evu246) (by decide) rfl rfl (Nat.le_of_ble_eq_true rfl) ?_
        refine r_icmp_eq 1064 d_Lw_law_872 (by decide) (fun qu249 => ?_) (fun qu249 => ?_)
        · replace hf := ip qu249 hf
          exact Kju3 Mu248  hf
        · replace hf := im qu249 hf
          refine r_iconst (v := 0) d_Lw_law_875 (by decide) ?_
          obtain rfl := Option.some.inj hf
          exact r_zreturn d_Lw_law_876 rfl (Or.inl rfl) rfl
      replace hf := im qu240 hf
      by_cases qu250 : xu6 = 25
      · replace hf := ip qu250 hf
        refine r_tabIn 877 d_Lw_law_32 (by rw [qu250]; decide) (by rw [qu250]; decide) (by rw [qu250]; rfl) (by decide) ?_
        refine r_aload_n 1 d_Lw_law_877 rfl rfl ?_
        refine r_aload_n 0 d_Lw_law_878 rfl rfl ?_
        refine r_iload_n 3 d_Lw_law_879 rfl rfl ?_
        refine r_iconst (v := 1) d_Lw_law_880 (by decide) ?_
        refine r_iadd d_Lw_law_881 ?_
        obtain ⟨qu251, hf⟩ := ck hf
        refine r_sld d_Lw_law_882 qu251 ?_
        refine r_aload_n 0 d_Lw_law_883 rfl rfl ?_
        refine r_iload_n 3 d_Lw_law_884 rfl rfl ?_
        refine r_iconst (v := 2) d_Lw_law_885 (by decide) ?_
        refine r_iadd d_Lw_law_886 ?_
        obtain ⟨qu252, hf⟩ := ck hf
        refine r_sld d_Lw_law_887 qu252 ?_
        refine r_aload_n 0 d_Lw_law_888 rfl rfl ?_
        refine r_iload_n 3 d_Lw_law_889 rfl rfl ?_
        refine r_iconst (v := 3) d_Lw_law_890 (by decide) ?_
        refine r_iadd d_Lw_law_891 ?_
        obtain ⟨qu253, hf⟩ := ck hf
        refine r_sld d_Lw_law_892 qu253 ?_
        obtain ⟨ju254, hju254, hf⟩ := lt_ex hf
        have Kju254 : ∀ (xu255 : Int32), ju254 xu255 = some ru → SW G 27 c_Lw_law R_Lw 4 (some .boolean) (some (.int ru.1), ru.2) M_18 901 [some (.ref 200), some (.ref 0), some (.ref 49), some (.int z3_18)] [.int xu255, .int (g_xs G (Int32.toNatClampNeg (z3_18 + 2))), .int (g_xs G (Int32.toNatClampNeg (z3_18 + 1))), .ref 0] := by
          intro xu255 hf
          rw [hju254] at hf
          obtain ⟨vu256, evu256, hf⟩ := bnd hf
          obtain ⟨vu257, Mu258⟩ := vu256
          replace hf := lt_of (rfl : vu257 = (vu257, Mu258).1) hf
          replace hf := lt_of (rfl : Mu258 = (vu257, Mu258).2) hf
          refine r_callV [.int (g_xs G (Int32.toNatClampNeg (z3_18 + 1))), .int (g_xs G (Int32.toNatClampNeg (z3_18 + 2))), .int xu255] d_Lw_law_901 lk_Lw_122 sh_0 (cm_Uc_write evu256) (by decide) rfl rfl (Nat.le_of_ble_eq_true rfl) ?_
          refine r_aload_n 2 d_Lw_law_904 rfl rfl ?_
          refine r_aload_n 0 d_Lw_law_905 rfl rfl ?_
          refine r_iload_n 3 d_Lw_law_906 rfl rfl ?_
          refine r_iconst (v := 1) d_Lw_law_907 (by decide) ?_
          refine r_iadd d_Lw_law_908 ?_
          obtain ⟨qu259, hf⟩ := ck hf
          refine r_sld d_Lw_law_909 qu259 ?_
          refine r_aload_n 0 d_Lw_law_910 rfl rfl ?_
          refine r_iload_n 3 d_Lw_law_911 rfl rfl ?_
          refine r_iconst (v := 2) d_Lw_law_912 (by decide) ?_
          refine r_iadd d_Lw_law_913 ?_
          obtain ⟨qu260, hf⟩ := ck hf
          refine r_sld d_Lw_law_914 qu260 ?_
          refine r_aload_n 0 d_Lw_law_915 rfl rfl ?_
          refine r_iload_n 3 d_Lw_law_916 rfl rfl ?_
          refine r_iconst (v := 3) d_Lw_law_917 (by decide) ?_
          refine r_iadd d_Lw_law_918 ?_
          obtain ⟨qu261, hf⟩ := ck hf
          refine r_sld d_Lw_law_919 qu261 ?_
          obtain ⟨ju262, hju262, hf⟩ := lt_ex hf
          have Kju262 : ∀ (xu263 : Int32), ju262 xu263 = some ru → SW G 27 c_Lw_law R_Lw 4 (some .boolean) (some (.int ru.1), ru.2) Mu258 928 [some (.ref 200), some (.ref 0), some (.ref 49), some (.int z3_18)] [.int xu263, .int (g_xs G (Int32.toNatClampNeg (z3_18 + 2))), .int (g_xs G (Int32.toNatClampNeg (z3_18 + 1))), .ref 49, .int vu257] := by
            intro xu263 hf
            rw [hju262] at hf
            obtain ⟨vu264, evu264, hf⟩ := bnd hf
            obtain ⟨vu265, Mu266⟩ := vu264
            replace hf := lt_of (rfl : vu265 = (vu265, Mu266).1) hf
            replace hf := lt_of (rfl : Mu266 = (vu265, Mu266).2) hf
            refine r_callV [.int (g_xs G (Int32.toNatClampNeg (z3_18 + 1))), .int (g_xs G (Int32.toNatClampNeg (z3_18 + 2))), .int xu263] d_Lw_law_928 lk_Lw_125 sh_49 (cm_Mo_write evu264) (by decide) rfl rfl (Nat.le_of_ble_eq_true rfl) ?_
            refine r_icmp_eq 1064 d_Lw_law_931 (by decide) (fun qu267 => ?_) (fun qu267 => ?_)
            · replace hf := ip qu267 hf
              exact Kju3 Mu266  hf
            · replace hf := im qu267 hf
              refine r_iconst (v := 0) d_Lw_law_934 (by decide) ?_
              obtain rfl := Option.some.inj hf
              exact r_zreturn d_Lw_law_935 rfl (Or.inl rfl) rfl
          refine r_if_eq 927 d_Lw_law_920 (by decide) (fun qu268 => ?_) (fun qu268 => ?_)
          · replace hf := ip qu268 hf
            refine r_iconst (v := 0) d_Lw_law_927 (by decide) ?_
            exact Kju262 0  hf
          · replace hf := im qu268 hf
            refine r_iconst (v := 1) d_Lw_law_923 (by decide) ?_
            refine r_goto 928 d_Lw_law_924 (by decide) ?_
            exact Kju262 1  hf
        refine r_if_eq 900 d_Lw_law_893 (by decide) (fun qu269 => ?_) (fun qu269 => ?_)
        · replace hf := ip qu269 hf
          refine r_iconst (v := 0) d_Lw_law_900 (by decide) ?_
          exact Kju254 0  hf
        · replace hf := im qu269 hf
          refine r_iconst (v := 1) d_Lw_law_896 (by decide) ?_
          refine r_goto 901 d_Lw_law_897 (by decide) ?_
          exact Kju254 1  hf
      replace hf := im qu250 hf
      by_cases qu270 : xu6 = 26
      · replace hf := ip qu270 hf
        refine r_tabIn 936 d_Lw_law_32 (by rw [qu270]; decide) (by rw [qu270]; decide) (by rw [qu270]; rfl) (by decide) ?_
        refine r_aload_n 1 d_Lw_law_936 rfl rfl ?_
        refine r_callV [] d_Lw_law_937 lk_Lw_126 sh_0 (cm_Uc_tear M_18) (by decide) rfl rfl (Nat.le_of_ble_eq_true rfl) ?_
        refine nmM (fun Mu271 hMu271 => ?_)
        replace hf := lt_of hMu271 hf
        refine r_aload_n 2 d_Lw_law_940 rfl rfl ?_
        refine r_callV [] d_Lw_law_941 lk_Lw_129 sh_49 (cm_Mo_tear Mu271) (by decide) rfl rfl (Nat.le_of_ble_eq_true rfl) ?_
        refine nmM (fun Mu272 hMu272 => ?_)
        replace hf := lt_of hMu272 hf
        refine r_icmp_eq 1064 d_Lw_law_944 (by decide) (fun qu273 => ?_) (fun qu273 => ?_)
        · replace hf := ip qu273 hf
          exact Kju3 Mu272  hf
        · replace hf := im qu273 hf
          refine r_iconst (v := 0) d_Lw_law_947 (by decide) ?_
          obtain rfl := Option.some.inj hf
          exact r_zreturn d_Lw_law_948 rfl (Or.inl rfl) rfl
      replace hf := im qu270 hf
      by_cases qu274 : xu6 = 27
      · replace hf := ip qu274 hf
        refine r_tabIn 949 d_Lw_law_32 (by rw [qu274]; decide) (by rw [qu274]; decide) (by rw [qu274]; rfl) (by decide) ?_
        refine r_aload_n 1 d_Lw_law_949 rfl rfl ?_
        refine r_aload_n 0 d_Lw_law_950 rfl rfl ?_
        refine r_iload_n 3 d_Lw_law_951 rfl rfl ?_
        refine r_iconst (v := 1) d_Lw_law_952 (by decide) ?_
        refine r_iadd d_Lw_law_953 ?_
        obtain ⟨qu275, hf⟩ := ck hf
        refine r_sld d_Lw_law_954 qu275 ?_
        obtain ⟨vu276, evu276, hf⟩ := bnd hf
        obtain ⟨vu277, Mu278⟩ := vu276
        replace hf := lt_of (rfl : vu277 = (vu277, Mu278).1) hf
        replace hf := lt_of (rfl : Mu278 = (vu277, Mu278).2) hf
        refine r_callV [.int (g_xs G (Int32.toNatClampNeg (z3_18 + 1)))] d_Lw_law_955 lk_Lw_130 sh_0 (cm_Uc_judge evu276) (by decide) rfl rfl (Nat.le_of_ble_eq_true rfl) ?_
        refine r_aload_n 2 d_Lw_law_958 rfl rfl ?_
        refine r_aload_n 0 d_Lw_law_959 rfl rfl ?_
        refine r_iload_n 3 d_Lw_law_960 rfl rfl ?_
        refine r_iconst (v := 1) d_Lw_law_961 (by decide) ?_
        refine r_iadd d_Lw_law_962 ?_
        obtain ⟨qu279, hf⟩ := ck hf
        refine r_sld d_Lw_law_963 qu279 ?_
        obtain ⟨vu280, evu280, hf⟩ := bnd hf
        obtain ⟨vu281, Mu282⟩ := vu280
        replace hf := lt_of (rfl : vu281 = (vu281, Mu282).1) hf
        replace hf := lt_of (rfl : Mu282 = (vu281, Mu282).2) hf
        refine r_callV [.int (g_xs G (Int32.toNatClampNeg (z3_18 + 1)))] d_Lw_law_964 lk_Lw_133 sh_49 (cm_Mo_judge evu280) (by decide) rfl rfl (Nat.le_of_ble_eq_true rfl) ?_
        refine r_icmp_eq 1064 d_Lw_law_967 (by decide) (fun qu283 => ?_) (fun qu283 => ?_)
        · replace hf := ip qu283 hf
          exact Kju3 Mu282  hf
        · replace hf := im qu283 hf
          refine r_iconst (v := 0) d_Lw_law_970 (by decide) ?_
          obtain rfl := Option.some.inj hf
          exact r_zreturn d_Lw_law_971 rfl (Or.inl rfl) rfl
      replace hf := im qu274 hf
      by_cases qu284 : xu6 = 28
      · replace hf := ip qu284 hf
        refine r_tabIn 972 d_Lw_law_32 (by rw [qu284]; decide) (by rw [qu284]; decide) (by rw [qu284]; rfl) (by decide) ?_
        refine r_aload_n 1 d_Lw_law_972 rfl rfl ?_
        refine r_aload_n 0 d_Lw_law_973 rfl rfl ?_
        refine r_iload_n 3 d_Lw_law_974 rfl rfl ?_
        refine r_iconst (v := 1) d_Lw_law_975 (by decide) ?_
        refine r_iadd d_Lw_law_976 ?_
        obtain ⟨qu285, hf⟩ := ck hf
        refine r_sld d_Lw_law_977 qu285 ?_
        obtain ⟨vu286, evu286, hf⟩ := bnd hf
        obtain ⟨vu287, Mu288⟩ := vu286
        replace hf := lt_of (rfl : vu287 = (vu287, Mu288).1) hf
        replace hf := lt_of (rfl : Mu288 = (vu287, Mu288).2) hf
        refine r_callV [.int (g_xs G (Int32.toNatClampNeg (z3_18 + 1)))] d_Lw_law_978 lk_Lw_134 sh_0 (cm_Uc_drift evu286) (by decide) rfl rfl (Nat.le_of_ble_eq_true rfl) ?_
        refine r_aload_n 2 d_Lw_law_981 rfl rfl ?_
        refine r_aload_n 0 d_Lw_law_982 rfl rfl ?_
        refine r_iload_n 3 d_Lw_law_983 rfl rfl ?_
        refine r_iconst (v := 1) d_Lw_law_984 (by decide) ?_
        refine r_iadd d_Lw_law_985 ?_
        obtain ⟨qu289, hf⟩ := ck hf
        refine r_sld d_Lw_law_986 qu289 ?_
        obtain ⟨vu290, evu290, hf⟩ := bnd hf
        obtain ⟨vu291, Mu292⟩ := vu290
        replace hf := lt_of (rfl : vu291 = (vu291, Mu292).1) hf
        replace hf := lt_of (rfl : Mu292 = (vu291, Mu292).2) hf
        refine r_callV [.int (g_xs G (Int32.toNatClampNeg (z3_18 + 1)))] d_Lw_law_987 lk_Lw_137 sh_49 (cm_Mo_drift evu290) (by decide) rfl rfl (Nat.le_of_ble_eq_true rfl) ?_
        refine r_icmp_eq 1064 d_Lw_law_990 (by decide) (fun qu293 => ?_) (fun qu293 => ?_)
        · replace hf := ip qu293 hf
          exact Kju3 Mu292  hf
        · replace hf := im qu293 hf
          refine r_iconst (v := 0) d_Lw_law_993 (by decide) ?_
          obtain rfl := Option.some.inj hf
          exact r_zreturn d_Lw_law_994 rfl (Or.inl rfl) rfl
      replace hf := im qu284 hf
      by_cases qu294 : xu6 = 29
      · replace hf := ip qu294 hf
        refine r_tabIn 995 d_Lw_law_32 (by rw [qu294]; decide) (by rw [qu294]; decide) (by rw [qu294]; rfl) (by decide) ?_
        refine r_aload_n 1 d_Lw_law_995 rfl rfl ?_
        refine r_aload_n 0 d_Lw_law_996 rfl rfl ?_
        refine r_iload_n 3 d_Lw_law_997 rfl rfl ?_
        refine r_iconst (v := 1) d_Lw_law_998 (by decide) ?_
        refine r_iadd d_Lw_law_999 ?_
        obtain ⟨qu295, hf⟩ := ck hf
        refine r_sld d_Lw_law_1000 qu295 ?_
        refine r_callV [.int (g_xs G (Int32.toNatClampNeg (z3_18 + 1)))] d_Lw_law_1001 lk_Lw_138 sh_0 (cm_Uc_seed (g_xs G (Int32.toNatClampNeg (z3_18 + 1))) M_18) (by decide) rfl rfl (Nat.le_of_ble_eq_true rfl) ?_
        refine nmM (fun Mu296 hMu296 => ?_)
        replace hf := lt_of hMu296 hf
        refine r_aload_n 2 d_Lw_law_1004 rfl rfl ?_
        refine r_aload_n 0 d_Lw_law_1005 rfl rfl ?_
        refine r_iload_n 3 d_Lw_law_1006 rfl rfl ?_
        refine r_iconst (v := 1) d_Lw_law_1007 (by decide) ?_
        refine r_iadd d_Lw_law_1008 ?_
        obtain ⟨qu297, hf⟩ := ck hf
        refine r_sld d_Lw_law_1009 qu297 ?_
        refine r_callV [.int (g_xs G (Int32.toNatClampNeg (z3_18 + 1)))] d_Lw_law_1010 lk_Lw_141 sh_49 (cm_Mo_seed (g_xs G (Int32.toNatClampNeg (z3_18 + 1))) Mu296) (by decide) rfl rfl (Nat.le_of_ble_eq_true rfl) ?_
        refine nmM (fun Mu298 hMu298 => ?_)
        replace hf := lt_of hMu298 hf
        refine r_icmp_eq 1064 d_Lw_law_1013 (by decide) (fun qu299 => ?_) (fun qu299 => ?_)
        · replace hf := ip qu299 hf
          exact Kju3 Mu298  hf
        · replace hf := im qu299 hf
          refine r_iconst (v := 0) d_Lw_law_1016 (by decide) ?_
          obtain rfl := Option.some.inj hf
          exact r_zreturn d_Lw_law_1017 rfl (Or.inl rfl) rfl
      replace hf := im qu294 hf
      by_cases qu300 : xu6 = 30
      · replace hf := ip qu300 hf
        refine r_tabIn 1018 d_Lw_law_32 (by rw [qu300]; decide) (by rw [qu300]; decide) (by rw [qu300]; rfl) (by decide) ?_
        refine r_aload_n 1 d_Lw_law_1018 rfl rfl ?_
        refine r_aload_n 0 d_Lw_law_1019 rfl rfl ?_
        refine r_iload_n 3 d_Lw_law_1020 rfl rfl ?_
        refine r_iconst (v := 1) d_Lw_law_1021 (by decide) ?_
        refine r_iadd d_Lw_law_1022 ?_
        obtain ⟨qu301, hf⟩ := ck hf
        refine r_sld d_Lw_law_1023 qu301 ?_
        obtain ⟨vu302, evu302, hf⟩ := bnd hf
        obtain ⟨vu303, Mu304⟩ := vu302
        replace hf := lt_of (rfl : vu303 = (vu303, Mu304).1) hf
        replace hf := lt_of (rfl : Mu304 = (vu303, Mu304).2) hf
        refine r_callV [.int (g_xs G (Int32.toNatClampNeg (z3_18 + 1)))] d_Lw_law_1024 lk_Lw_142 sh_0 (cm_Uc_keep evu302) (by decide) rfl rfl (Nat.le_of_ble_eq_true rfl) ?_
        refine r_aload_n 2 d_Lw_law_1027 rfl rfl ?_
        refine r_aload_n 0 d_Lw_law_1028 rfl rfl ?_
        refine r_iload_n 3 d_Lw_law_1029 rfl rfl ?_
        refine r_iconst (v := 1) d_Lw_law_1030 (by decide) ?_
        refine r_iadd d_Lw_law_1031 ?_
        obtain ⟨qu305, hf⟩ := ck hf
        refine r_sld d_Lw_law_1032 qu305 ?_
        obtain ⟨vu306, evu306, hf⟩ := bnd hf
        obtain ⟨vu307, Mu308⟩ := vu306
        replace hf := lt_of (rfl : vu307 = (vu307, Mu308).1) hf
        replace hf := lt_of (rfl : Mu308 = (vu307, Mu308).2) hf
        refine r_callV [.int (g_xs G (Int32.toNatClampNeg (z3_18 + 1)))] d_Lw_law_1033 lk_Lw_145 sh_49 (cm_Mo_keep evu306) (by decide) rfl rfl (Nat.le_of_ble_eq_true rfl) ?_
        refine r_icmp_eq 1064 d_Lw_law_1036 (by decide) (fun qu309 => ?_) (fun qu309 => ?_)
        · replace hf := ip qu309 hf
          exact Kju3 Mu308  hf
        · replace hf := im qu309 hf
          refine r_iconst (v := 0) d_Lw_law_1039 (by decide) ?_
          obtain rfl := Option.some.inj hf
          exact r_zreturn d_Lw_law_1040 rfl (Or.inl rfl) rfl
      replace hf := im qu300 hf
      by_cases qu310 : xu6 = 31
      · replace hf := ip qu310 hf
        refine r_tabIn 1041 d_Lw_law_32 (by rw [qu310]; decide) (by rw [qu310]; decide) (by rw [qu310]; rfl) (by decide) ?_
        refine r_aload_n 1 d_Lw_law_1041 rfl rfl ?_
        refine r_aload_n 0 d_Lw_law_1042 rfl rfl ?_
        refine r_iload_n 3 d_Lw_law_1043 rfl rfl ?_
        refine r_iconst (v := 1) d_Lw_law_1044 (by decide) ?_
        refine r_iadd d_Lw_law_1045 ?_
        obtain ⟨qu311, hf⟩ := ck hf
        refine r_sld d_Lw_law_1046 qu311 ?_
        obtain ⟨vu312, evu312, hf⟩ := bnd hf
        obtain ⟨vu313, Mu314⟩ := vu312
        replace hf := lt_of (rfl : vu313 = (vu313, Mu314).1) hf
        replace hf := lt_of (rfl : Mu314 = (vu313, Mu314).2) hf
        refine r_callV [.int (g_xs G (Int32.toNatClampNeg (z3_18 + 1)))] d_Lw_law_1047 lk_Lw_146 sh_0 (cm_Uc_goBack evu312) (by decide) rfl rfl (Nat.le_of_ble_eq_true rfl) ?_
        refine r_aload_n 2 d_Lw_law_1050 rfl rfl ?_
        refine r_aload_n 0 d_Lw_law_1051 rfl rfl ?_
        refine r_iload_n 3 d_Lw_law_1052 rfl rfl ?_
        refine r_iconst (v := 1) d_Lw_law_1053 (by decide) ?_
        refine r_iadd d_Lw_law_1054 ?_
        obtain ⟨qu315, hf⟩ := ck hf
        refine r_sld d_Lw_law_1055 qu315 ?_
        obtain ⟨vu316, evu316, hf⟩ := bnd hf
        obtain ⟨vu317, Mu318⟩ := vu316
        replace hf := lt_of (rfl : vu317 = (vu317, Mu318).1) hf
        replace hf := lt_of (rfl : Mu318 = (vu317, Mu318).2) hf
        refine r_callV [.int (g_xs G (Int32.toNatClampNeg (z3_18 + 1)))] d_Lw_law_1056 lk_Lw_149 sh_49 (cm_Mo_goBack evu316) (by decide) rfl rfl (Nat.le_of_ble_eq_true rfl) ?_
        refine r_icmp_eq 1064 d_Lw_law_1059 (by decide) (fun qu319 => ?_) (fun qu319 => ?_)
        · replace hf := ip qu319 hf
          exact Kju3 Mu318  hf
        · replace hf := im qu319 hf
          refine r_iconst (v := 0) d_Lw_law_1062 (by decide) ?_
          obtain rfl := Option.some.inj hf
          exact r_zreturn d_Lw_law_1063 rfl (Or.inl rfl) rfl
      replace hf := im qu310 hf
      refine r_tabOut 1064 d_Lw_law_32 (by have tq7 := lv_neT qu7 (a := 0) (by decide); have tq21 := lv_neT qu21 (a := 1) (by decide); have tq29 := lv_neT qu29 (a := 2) (by decide); have tq31 := lv_neT qu31 (a := 3) (by decide); have tq39 := lv_neT qu39 (a := 4) (by decide); have tq45 := lv_neT qu45 (a := 5) (by decide); have tq51 := lv_neT qu51 (a := 6) (by decide); have tq59 := lv_neT qu59 (a := 7) (by decide); have tq66 := lv_neT qu66 (a := 8) (by decide); have tq86 := lv_neT qu86 (a := 9) (by decide); have tq100 := lv_neT qu100 (a := 10) (by decide); have tq108 := lv_neT qu108 (a := 11) (by decide); have tq118 := lv_neT qu118 (a := 12) (by decide); have tq128 := lv_neT qu128 (a := 13) (by decide); have tq138 := lv_neT qu138 (a := 14) (by decide); have tq146 := lv_neT qu146 (a := 15) (by decide); have tq156 := lv_neT qu156 (a := 16) (by decide); have tq166 := lv_neT qu166 (a := 17) (by decide); have tq178 := lv_neT qu178 (a := 18) (by decide); have tq190 := lv_neT qu190 (a := 19) (by decide); have tq198 := lv_neT qu198 (a := 20) (by decide); have tq210 := lv_neT qu210 (a := 21) (by decide); have tq218 := lv_neT qu218 (a := 22) (by decide); have tq230 := lv_neT qu230 (a := 23) (by decide); have tq240 := lv_neT qu240 (a := 24) (by decide); have tq250 := lv_neT qu250 (a := 25) (by decide); have tq270 := lv_neT qu270 (a := 26) (by decide); have tq274 := lv_neT qu274 (a := 27) (by decide); have tq284 := lv_neT qu284 (a := 28) (by decide); have tq294 := lv_neT qu294 (a := 29) (by decide); have tq300 := lv_neT qu300 (a := 30) (by decide); have tq310 := lv_neT qu310 (a := 31) (by decide); omega) (by decide) ?_
      exact Kju3 M_18  hf
theorem sw_law {G : GT} {Nu : Nat} {Mu : Mm} {ru : Int32 × Mm} (hf : f_Lw_law Nu G Mu = some ru) : SW G 27 c_Lw_law R_Lw 4 (some .boolean) (some (.int ru.1), ru.2) Mu 16 [some (.ref 200), some (.ref 0), some (.ref 49), none] [] := by
  unfold f_Lw_law at hf
  refine r_iconst (v := 0) d_Lw_law_16 (by decide) ?_
  refine r_istore_n (lv' := [some (.ref 200), some (.ref 0), some (.ref 49), some (.int 0)]) 3 d_Lw_law_17 rfl (by decide) rfl ?_
  exact l_Lw_law_18 (G := G) (ru := ru) Nu   Nu 0 Mu hf
