/-! the law, its loop (printed by wip/gen/gen31.py) -/
def g299_2179 (Lg : Nat) (xs : Nat → Int32) (F : Nat) (k18 : Int32 → AmT → Option (Int32 × AmT)) (x3 : Int32) (S : AmT) : Option (Int32 × AmT) := k18 (x3 + 9) S
def g299_18 (Lg : Nat) (xs : Nat → Int32) (F : Nat) : Nat → Int32 → AmT → Option (Int32 × AmT)
  | 0, _, _ => none
  | n + 1, x3, S => if ((Int32.ofNat Lg) - 9) < x3 then (some (1, S)) else (am_ck x3 Lg (if ((xs x3.toNatClampNeg) &&& 63) = 0 then (am_ck (x3 + 1) Lg (am_ck (x3 + 2) Lg (am_b2 (f141 F (xs (x3 + 1).toNatClampNeg) (xs (x3 + 2).toNatClampNeg) S) fun v3 S4 => am_ck (x3 + 1) Lg (am_ck (x3 + 2) Lg (am_b2 (f208 F (xs (x3 + 1).toNatClampNeg) (xs (x3 + 2).toNatClampNeg) S4) fun v5 S6 => if v3 = v5 then (g299_2179 Lg xs F (fun x3 S => g299_18 Lg xs F n x3 S) x3 S6) else (some (0, S6))))))) else if ((xs x3.toNatClampNeg) &&& 63) = 1 then (am_ck (x3 + 1) Lg (am_b2 (f142 F (xs (x3 + 1).toNatClampNeg) S) fun v9 S10 => am_ck (x3 + 1) Lg (am_b2 (f209 F (xs (x3 + 1).toNatClampNeg) S10) fun v11 S12 => if v9 = v11 then (g299_2179 Lg xs F (fun x3 S => g299_18 Lg xs F n x3 S) x3 S12) else (some (0, S12))))) else if ((xs x3.toNatClampNeg) &&& 63) = 2 then (am_ck (x3 + 1) Lg (am_ck (x3 + 2) Lg (am_b2 (f143 F (xs (x3 + 1).toNatClampNeg) (xs (x3 + 2).toNatClampNeg) S) fun v15 S16 => am_ck (x3 + 1) Lg (am_ck (x3 + 2) Lg (am_b2 (f210 F (xs (x3 + 1).toNatClampNeg) (xs (x3 + 2).toNatClampNeg) S16) fun v17 S18 => if v15 = v17 then (g299_2179 Lg xs F (fun x3 S => g299_18 Lg xs F n x3 S) x3 S18) else (some (0, S18))))))) else if ((xs x3.toNatClampNeg) &&& 63) = 3 then (am_ck (x3 + 1) Lg (am_ck (x3 + 2) Lg (am_ck (x3 + 3) Lg (am_b2 (f144 F (xs (x3 + 1).toNatClampNeg) (xs (x3 + 2).toNatClampNeg) (xs (x3 + 3).toNatClampNeg) S) fun v21 S22 => am_ck (x3 + 1) Lg (am_ck (x3 + 2) Lg (am_ck (x3 + 3) Lg (am_b2 (f211 F (xs (x3 + 1).toNatClampNeg) (xs (x3 + 2).toNatClampNeg) (xs (x3 + 3).toNatClampNeg) S22) fun v23 S24 => if v21 = v23 then (g299_2179 Lg xs F (fun x3 S => g299_18 Lg xs F n x3 S) x3 S24) else (some (0, S24))))))))) else if ((xs x3.toNatClampNeg) &&& 63) = 4 then (am_ck (x3 + 1) Lg (am_ck (x3 + 2) Lg (am_ck (x3 + 3) Lg (am_ck (x3 + 4) Lg (am_b2 (f145 F (xs (x3 + 1).toNatClampNeg) (xs (x3 + 2).toNatClampNeg) (xs (x3 + 3).toNatClampNeg) (xs (x3 + 4).toNatClampNeg) S) fun v27 S28 => am_ck (x3 + 1) Lg (am_ck (x3 + 2) Lg (am_ck (x3 + 3) Lg (am_ck (x3 + 4) Lg (am_b2 (f214 F (xs (x3 + 1).toNatClampNeg) (xs (x3 + 2).toNatClampNeg) (xs (x3 + 3).toNatClampNeg) (xs (x3 + 4).toNatClampNeg) S28) fun v29 S30 => if v27 = v29 then (g299_2179 Lg xs F (fun x3 S => g299_18 Lg xs F n x3 S) x3 S30) else (some (0, S30))))))))))) else if ((xs x3.toNatClampNeg) &&& 63) = 5 then (am_ck (x3 + 1) Lg (am_ck (x3 + 2) Lg (am_ck (x3 + 3) Lg (am_b2 (f146 F (xs (x3 + 1).toNatClampNeg) (xs (x3 + 2).toNatClampNeg) (xs (x3 + 3).toNatClampNeg) S) fun v33 S34 => am_ck (x3 + 1) Lg (am_ck (x3 + 2) Lg (am_ck (x3 + 3) Lg (am_b2 (f215 F (xs (x3 + 1).toNatClampNeg) (xs (x3 + 2).toNatClampNeg) (xs (x3 + 3).toNatClampNeg) S34) fun v35 S36 => if v33 = v35 then (g299_2179 Lg xs F (fun x3 S => g299_18 Lg xs F n x3 S) x3 S36) else (some (0, S36))))))))) else if ((xs x3.toNatClampNeg) &&& 63) = 6 then (am_ck (x3 + 1) Lg (am_ck (x3 + 2) Lg (am_ck (x3 + 3) Lg (am_ck (x3 + 4) Lg (am_ck (x3 + 5) Lg (am_b2 (f147 F (xs (x3 + 1).toNatClampNeg) (xs (x3 + 2).toNatClampNeg) (xs (x3 + 3).toNatClampNeg) (xs (x3 + 4).toNatClampNeg) (xs (x3 + 5).toNatClampNeg) S) fun v39 S40 => am_ck (x3 + 1) Lg (am_ck (x3 + 2) Lg (am_ck (x3 + 3) Lg (am_ck (x3 + 4) Lg (am_ck (x3 + 5) Lg (am_b2 (f216 F (xs (x3 + 1).toNatClampNeg) (xs (x3 + 2).toNatClampNeg) (xs (x3 + 3).toNatClampNeg) (xs (x3 + 4).toNatClampNeg) (xs (x3 + 5).toNatClampNeg) S40) fun v41 S42 => if v39 = v41 then (g299_2179 Lg xs F (fun x3 S => g299_18 Lg xs F n x3 S) x3 S42) else (some (0, S42))))))))))))) else if ((xs x3.toNatClampNeg) &&& 63) = 7 then (am_ck (x3 + 1) Lg (am_ck (x3 + 2) Lg (am_ck (x3 + 3) Lg (am_ck (x3 + 4) Lg (am_b2 (f148 F (xs (x3 + 1).toNatClampNeg) (xs (x3 + 2).toNatClampNeg) (xs (x3 + 3).toNatClampNeg) (xs (x3 + 4).toNatClampNeg) S) fun v45 S46 => am_ck (x3 + 1) Lg (am_ck (x3 + 2) Lg (am_ck (x3 + 3) Lg (am_ck (x3 + 4) Lg (am_b2 (f217 F (xs (x3 + 1).toNatClampNeg) (xs (x3 + 2).toNatClampNeg) (xs (x3 + 3).toNatClampNeg) (xs (x3 + 4).toNatClampNeg) S46) fun v47 S48 => if v45 = v47 then (g299_2179 Lg xs F (fun x3 S => g299_18 Lg xs F n x3 S) x3 S48) else (some (0, S48))))))))))) else if ((xs x3.toNatClampNeg) &&& 63) = 8 then (am_ck (x3 + 1) Lg (am_ck (x3 + 2) Lg (am_ck (x3 + 3) Lg (am_b2 (f149 F (xs (x3 + 1).toNatClampNeg) (xs (x3 + 2).toNatClampNeg) (xs (x3 + 3).toNatClampNeg) S) fun v51 S52 => am_ck (x3 + 1) Lg (am_ck (x3 + 2) Lg (am_ck (x3 + 3) Lg (am_b2 (f218 F (xs (x3 + 1).toNatClampNeg) (xs (x3 + 2).toNatClampNeg) (xs (x3 + 3).toNatClampNeg) S52) fun v53 S54 => if v51 = v53 then (g299_2179 Lg xs F (fun x3 S => g299_18 Lg xs F n x3 S) x3 S54) else (some (0, S54))))))))) else if ((xs x3.toNatClampNeg) &&& 63) = 9 then (am_ck (x3 + 1) Lg (am_ck (x3 + 2) Lg (am_ck (x3 + 3) Lg (am_ck (x3 + 4) Lg (am_ck (x3 + 5) Lg (am_ck (x3 + 6) Lg (am_ck (x3 + 7) Lg (am_b2 (f150 F (xs (x3 + 1).toNatClampNeg) (xs (x3 + 2).toNatClampNeg) (xs (x3 + 3).toNatClampNeg) (xs (x3 + 4).toNatClampNeg) (xs (x3 + 5).toNatClampNeg) (xs (x3 + 6).toNatClampNeg) (xs (x3 + 7).toNatClampNeg) S) fun v57 S58 => am_ck (x3 + 1) Lg (am_ck (x3 + 2) Lg (am_ck (x3 + 3) Lg (am_ck (x3 + 4) Lg (am_ck (x3 + 5) Lg (am_ck (x3 + 6) Lg (am_ck (x3 + 7) Lg (am_b2 (f220 F (xs (x3 + 1).toNatClampNeg) (xs (x3 + 2).toNatClampNeg) (xs (x3 + 3).toNatClampNeg) (xs (x3 + 4).toNatClampNeg) (xs (x3 + 5).toNatClampNeg) (xs (x3 + 6).toNatClampNeg) (xs (x3 + 7).toNatClampNeg) S58) fun v59 S60 => if v57 = v59 then (g299_2179 Lg xs F (fun x3 S => g299_18 Lg xs F n x3 S) x3 S60) else (some (0, S60))))))))))))))))) else if ((xs x3.toNatClampNeg) &&& 63) = 10 then (am_b2 (f151 F S) fun v63 S64 => am_b2 (f221 F S64) fun v65 S66 => if v63 = v65 then (g299_2179 Lg xs F (fun x3 S => g299_18 Lg xs F n x3 S) x3 S66) else (some (0, S66))) else if ((xs x3.toNatClampNeg) &&& 63) = 11 then (am_ck (x3 + 1) Lg (am_ck (x3 + 2) Lg (am_ck (x3 + 3) Lg (am_b2 (f152 F (xs (x3 + 1).toNatClampNeg) (xs (x3 + 2).toNatClampNeg) (xs (x3 + 3).toNatClampNeg) S) fun v69 S70 => am_ck (x3 + 1) Lg (am_ck (x3 + 2) Lg (am_ck (x3 + 3) Lg (am_b2 (f222 F (xs (x3 + 1).toNatClampNeg) (xs (x3 + 2).toNatClampNeg) (xs (x3 + 3).toNatClampNeg) S70) fun v71 S72 => if v69 = v71 then (g299_2179 Lg xs F (fun x3 S => g299_18 Lg xs F n x3 S) x3 S72) else (some (0, S72))))))))) else if ((xs x3.toNatClampNeg) &&& 63) = 12 then (am_ck (x3 + 1) Lg (am_ck (x3 + 2) Lg (am_b2 (f153 F (xs (x3 + 1).toNatClampNeg) (xs (x3 + 2).toNatClampNeg) S) fun v75 S76 => am_ck (x3 + 1) Lg (am_ck (x3 + 2) Lg (am_b2 (f223 F (xs (x3 + 1).toNatClampNeg) (xs (x3 + 2).toNatClampNeg) S76) fun v77 S78 => if v75 = v77 then (g299_2179 Lg xs F (fun x3 S => g299_18 Lg xs F n x3 S) x3 S78) else (some (0, S78))))))) else if ((xs x3.toNatClampNeg) &&& 63) = 13 then (am_ck (x3 + 1) Lg (am_ck (x3 + 2) Lg (am_b2 (f154 F (xs (x3 + 1).toNatClampNeg) (xs (x3 + 2).toNatClampNeg) S) fun v81 S82 => am_ck (x3 + 1) Lg (am_ck (x3 + 2) Lg (am_b2 (f226 F (xs (x3 + 1).toNatClampNeg) (xs (x3 + 2).toNatClampNeg) S82) fun v83 S84 => if v81 = v83 then (g299_2179 Lg xs F (fun x3 S => g299_18 Lg xs F n x3 S) x3 S84) else (some (0, S84))))))) else if ((xs x3.toNatClampNeg) &&& 63) = 14 then (am_ck (x3 + 1) Lg (am_ck (x3 + 2) Lg (am_b2 (f155 F (xs (x3 + 1).toNatClampNeg) (xs (x3 + 2).toNatClampNeg) S) fun v87 S88 => am_ck (x3 + 1) Lg (am_ck (x3 + 2) Lg (am_b2 (f227 F (xs (x3 + 1).toNatClampNeg) (xs (x3 + 2).toNatClampNeg) S88) fun v89 S90 => if v87 = v89 then (g299_2179 Lg xs F (fun x3 S => g299_18 Lg xs F n x3 S) x3 S90) else (some (0, S90))))))) else if ((xs x3.toNatClampNeg) &&& 63) = 15 then (am_ck (x3 + 1) Lg (am_b2 (f156 F (xs (x3 + 1).toNatClampNeg) S) fun v93 S94 => am_ck (x3 + 1) Lg (am_b2 (f228 F (xs (x3 + 1).toNatClampNeg) S94) fun v95 S96 => if v93 = v95 then (g299_2179 Lg xs F (fun x3 S => g299_18 Lg xs F n x3 S) x3 S96) else (some (0, S96))))) else if ((xs x3.toNatClampNeg) &&& 63) = 16 then (am_ck (x3 + 1) Lg (am_ck (x3 + 2) Lg (am_b2 (f157 F (xs (x3 + 1).toNatClampNeg) (xs (x3 + 2).toNatClampNeg) S) fun v99 S100 => am_ck (x3 + 1) Lg (am_ck (x3 + 2) Lg (am_b2 (f229 F (xs (x3 + 1).toNatClampNeg) (xs (x3 + 2).toNatClampNeg) S100) fun v101 S102 => if v99 = v101 then (g299_2179 Lg xs F (fun x3 S => g299_18 Lg xs F n x3 S) x3 S102) else (some (0, S102))))))) else if ((xs x3.toNatClampNeg) &&& 63) = 17 then (am_ck (x3 + 1) Lg (am_ck (x3 + 2) Lg (am_b2 (f158 F (xs (x3 + 1).toNatClampNeg) (xs (x3 + 2).toNatClampNeg) S) fun v105 S106 => am_ck (x3 + 1) Lg (am_ck (x3 + 2) Lg (am_b2 (f232 F (xs (x3 + 1).toNatClampNeg) (xs (x3 + 2).toNatClampNeg) S106) fun v107 S108 => if v105 = v107 then (g299_2179 Lg xs F (fun x3 S => g299_18 Lg xs F n x3 S) x3 S108) else (some (0, S108))))))) else if ((xs x3.toNatClampNeg) &&& 63) = 18 then (am_ck (x3 + 1) Lg (am_ck (x3 + 2) Lg (am_ck (x3 + 3) Lg (am_ck (x3 + 4) Lg (am_ck (x3 + 5) Lg (am_b2 (f159 F (xs (x3 + 1).toNatClampNeg) (xs (x3 + 2).toNatClampNeg) (xs (x3 + 3).toNatClampNeg) (xs (x3 + 4).toNatClampNeg) (xs (x3 + 5).toNatClampNeg) S) fun v111 S112 => am_ck (x3 + 1) Lg (am_ck (x3 + 2) Lg (am_ck (x3 + 3) Lg (am_ck (x3 + 4) Lg (am_ck (x3 + 5) Lg (am_b2 (f247 F (xs (x3 + 1).toNatClampNeg) (xs (x3 + 2).toNatClampNeg) (xs (x3 + 3).toNatClampNeg) (xs (x3 + 4).toNatClampNeg) (xs (x3 + 5).toNatClampNeg) S112) fun v113 S114 => if v111 = v113 then (g299_2179 Lg xs F (fun x3 S => g299_18 Lg xs F n x3 S) x3 S114) else (some (0, S114))))))))))))) else if ((xs x3.toNatClampNeg) &&& 63) = 19 then (am_ck (x3 + 1) Lg (am_ck (x3 + 2) Lg (am_ck (x3 + 3) Lg (am_b2 (f160 F (xs (x3 + 1).toNatClampNeg) (xs (x3 + 2).toNatClampNeg) (xs (x3 + 3).toNatClampNeg) S) fun v117 S118 => am_ck (x3 + 1) Lg (am_ck (x3 + 2) Lg (am_ck (x3 + 3) Lg (am_b2 (f248 F (xs (x3 + 1).toNatClampNeg) (xs (x3 + 2).toNatClampNeg) (xs (x3 + 3).toNatClampNeg) S118) fun v119 S120 => if v117 = v119 then (g299_2179 Lg xs F (fun x3 S => g299_18 Lg xs F n x3 S) x3 S120) else (some (0, S120))))))))) else if ((xs x3.toNatClampNeg) &&& 63) = 20 then (am_ck (x3 + 1) Lg (am_ck (x3 + 2) Lg (am_ck (x3 + 3) Lg (am_b2 (f163 F (xs (x3 + 1).toNatClampNeg) (xs (x3 + 2).toNatClampNeg) (xs (x3 + 3).toNatClampNeg) S) fun v123 S124 => am_ck (x3 + 1) Lg (am_ck (x3 + 2) Lg (am_ck (x3 + 3) Lg (am_b2 (f252 F (xs (x3 + 1).toNatClampNeg) (xs (x3 + 2).toNatClampNeg) (xs (x3 + 3).toNatClampNeg) S124) fun v125 S126 => if v123 = v125 then (g299_2179 Lg xs F (fun x3 S => g299_18 Lg xs F n x3 S) x3 S126) else (some (0, S126))))))))) else if ((xs x3.toNatClampNeg) &&& 63) = 21 then (am_ck (x3 + 1) Lg (am_ck (x3 + 2) Lg (am_ck (x3 + 3) Lg (am_b2 (f164 F (xs (x3 + 1).toNatClampNeg) (xs (x3 + 2).toNatClampNeg) (xs (x3 + 3).toNatClampNeg) S) fun v129 S130 => am_ck (x3 + 1) Lg (am_ck (x3 + 2) Lg (am_ck (x3 + 3) Lg (am_b2 (f253 F (xs (x3 + 1).toNatClampNeg) (xs (x3 + 2).toNatClampNeg) (xs (x3 + 3).toNatClampNeg) S130) fun v131 S132 => if v129 = v131 then (g299_2179 Lg xs F (fun x3 S => g299_18 Lg xs F n x3 S) x3 S132) else (some (0, S132))))))))) else if ((xs x3.toNatClampNeg) &&& 63) = 22 then (am_ck (x3 + 1) Lg (am_ck (x3 + 2) Lg (am_ck (x3 + 3) Lg (am_ck (x3 + 4) Lg (am_ck (x3 + 5) Lg (am_ck (x3 + 6) Lg (am_b2 (f165 F (xs (x3 + 1).toNatClampNeg) (xs (x3 + 2).toNatClampNeg) (xs (x3 + 3).toNatClampNeg) (xs (x3 + 4).toNatClampNeg) (xs (x3 + 5).toNatClampNeg) (xs (x3 + 6).toNatClampNeg) S) fun v135 S136 => am_ck (x3 + 1) Lg (am_ck (x3 + 2) Lg (am_ck (x3 + 3) Lg (am_ck (x3 + 4) Lg (am_ck (x3 + 5) Lg (am_ck (x3 + 6) Lg (am_b2 (f255 F (xs (x3 + 1).toNatClampNeg) (xs (x3 + 2).toNatClampNeg) (xs (x3 + 3).toNatClampNeg) (xs (x3 + 4).toNatClampNeg) (xs (x3 + 5).toNatClampNeg) (xs (x3 + 6).toNatClampNeg) S136) fun v137 S138 => if v135 = v137 then (g299_2179 Lg xs F (fun x3 S => g299_18 Lg xs F n x3 S) x3 S138) else (some (0, S138))))))))))))))) else if ((xs x3.toNatClampNeg) &&& 63) = 23 then (am_ck (x3 + 1) Lg (am_ck (x3 + 2) Lg (am_ck (x3 + 3) Lg (am_ck (x3 + 4) Lg (am_ck (x3 + 5) Lg (am_b2 (f166 F (xs (x3 + 1).toNatClampNeg) (xs (x3 + 2).toNatClampNeg) (xs (x3 + 3).toNatClampNeg) (xs (x3 + 4).toNatClampNeg) (xs (x3 + 5).toNatClampNeg) S) fun v141 S142 => am_ck (x3 + 1) Lg (am_ck (x3 + 2) Lg (am_ck (x3 + 3) Lg (am_ck (x3 + 4) Lg (am_ck (x3 + 5) Lg (am_b2 (f256 F (xs (x3 + 1).toNatClampNeg) (xs (x3 + 2).toNatClampNeg) (xs (x3 + 3).toNatClampNeg) (xs (x3 + 4).toNatClampNeg) (xs (x3 + 5).toNatClampNeg) S142) fun v143 S144 => if v141 = v143 then (g299_2179 Lg xs F (fun x3 S => g299_18 Lg xs F n x3 S) x3 S144) else (some (0, S144))))))))))))) else if ((xs x3.toNatClampNeg) &&& 63) = 24 then (am_ck (x3 + 1) Lg (am_ck (x3 + 2) Lg (am_ck (x3 + 3) Lg (am_ck (x3 + 4) Lg (am_ck (x3 + 5) Lg (am_ck (x3 + 6) Lg (am_ck (x3 + 7) Lg (am_ck (x3 + 8) Lg (am_b2 (f167 F (xs (x3 + 1).toNatClampNeg) (xs (x3 + 2).toNatClampNeg) (xs (x3 + 3).toNatClampNeg) (xs (x3 + 4).toNatClampNeg) (xs (x3 + 5).toNatClampNeg) (xs (x3 + 6).toNatClampNeg) (xs (x3 + 7).toNatClampNeg) (xs (x3 + 8).toNatClampNeg) S) fun v147 S148 => am_ck (x3 + 1) Lg (am_ck (x3 + 2) Lg (am_ck (x3 + 3) Lg (am_ck (x3 + 4) Lg (am_ck (x3 + 5) Lg (am_ck (x3 + 6) Lg (am_ck (x3 + 7) Lg (am_ck (x3 + 8) Lg (am_b2 (f258 F (xs (x3 + 1).toNatClampNeg) (xs (x3 + 2).toNatClampNeg) (xs (x3 + 3).toNatClampNeg) (xs (x3 + 4).toNatClampNeg) (xs (x3 + 5).toNatClampNeg) (xs (x3 + 6).toNatClampNeg) (xs (x3 + 7).toNatClampNeg) (xs (x3 + 8).toNatClampNeg) S148) fun v149 S150 => if v147 = v149 then (g299_2179 Lg xs F (fun x3 S => g299_18 Lg xs F n x3 S) x3 S150) else (some (0, S150))))))))))))))))))) else if ((xs x3.toNatClampNeg) &&& 63) = 25 then (am_ck (x3 + 1) Lg (am_ck (x3 + 2) Lg (am_ck (x3 + 3) Lg (am_b2 (f168 F (xs (x3 + 1).toNatClampNeg) (xs (x3 + 2).toNatClampNeg) (xs (x3 + 3).toNatClampNeg) S) fun v153 S154 => am_ck (x3 + 1) Lg (am_ck (x3 + 2) Lg (am_ck (x3 + 3) Lg (am_b2 (f264 F (xs (x3 + 1).toNatClampNeg) (xs (x3 + 2).toNatClampNeg) (xs (x3 + 3).toNatClampNeg) S154) fun v155 S156 => if v153 = v155 then (g299_2179 Lg xs F (fun x3 S => g299_18 Lg xs F n x3 S) x3 S156) else (some (0, S156))))))))) else if ((xs x3.toNatClampNeg) &&& 63) = 26 then (am_ck (x3 + 1) Lg (am_ck (x3 + 2) Lg (am_ck (x3 + 3) Lg (am_b2 (f169 F (xs (x3 + 1).toNatClampNeg) (xs (x3 + 2).toNatClampNeg) (xs (x3 + 3).toNatClampNeg) S) fun v159 S160 => am_ck (x3 + 1) Lg (am_ck (x3 + 2) Lg (am_ck (x3 + 3) Lg (am_b2 (f265 F (xs (x3 + 1).toNatClampNeg) (xs (x3 + 2).toNatClampNeg) (xs (x3 + 3).toNatClampNeg) S160) fun v161 S162 => if v159 = v161 then (g299_2179 Lg xs F (fun x3 S => g299_18 Lg xs F n x3 S) x3 S162) else (some (0, S162))))))))) else if ((xs x3.toNatClampNeg) &&& 63) = 27 then (am_ck (x3 + 1) Lg (am_ck (x3 + 2) Lg (am_ck (x3 + 3) Lg (am_ck (x3 + 4) Lg (am_ck (x3 + 5) Lg (am_ck (x3 + 6) Lg (am_b2 (f170 F (xs (x3 + 1).toNatClampNeg) (xs (x3 + 2).toNatClampNeg) (xs (x3 + 3).toNatClampNeg) (xs (x3 + 4).toNatClampNeg) (xs (x3 + 5).toNatClampNeg) (xs (x3 + 6).toNatClampNeg) S) fun v165 S166 => am_ck (x3 + 1) Lg (am_ck (x3 + 2) Lg (am_ck (x3 + 3) Lg (am_ck (x3 + 4) Lg (am_ck (x3 + 5) Lg (am_ck (x3 + 6) Lg (am_b2 (f267 F (xs (x3 + 1).toNatClampNeg) (xs (x3 + 2).toNatClampNeg) (xs (x3 + 3).toNatClampNeg) (xs (x3 + 4).toNatClampNeg) (xs (x3 + 5).toNatClampNeg) (xs (x3 + 6).toNatClampNeg) S166) fun v167 S168 => if v165 = v167 then (g299_2179 Lg xs F (fun x3 S => g299_18 Lg xs F n x3 S) x3 S168) else (some (0, S168))))))))))))))) else if ((xs x3.toNatClampNeg) &&& 63) = 28 then (am_ck (x3 + 1) Lg (am_b2 (f171 F (xs (x3 + 1).toNatClampNeg) S) fun v171 S172 => am_ck (x3 + 1) Lg (am_b2 (f269 F (xs (x3 + 1).toNatClampNeg) S172) fun v173 S174 => if v171 = v173 then (g299_2179 Lg xs F (fun x3 S => g299_18 Lg xs F n x3 S) x3 S174) else (some (0, S174))))) else if ((xs x3.toNatClampNeg) &&& 63) = 29 then (am_ck (x3 + 1) Lg (am_ck (x3 + 2) Lg (am_b2 (f172 F (xs (x3 + 1).toNatClampNeg) (xs (x3 + 2).toNatClampNeg) S) fun v177 S178 => am_ck (x3 + 1) Lg (am_ck (x3 + 2) Lg (am_b2 (f270 F (xs (x3 + 1).toNatClampNeg) (xs (x3 + 2).toNatClampNeg) S178) fun v179 S180 => if v177 = v179 then (g299_2179 Lg xs F (fun x3 S => g299_18 Lg xs F n x3 S) x3 S180) else (some (0, S180))))))) else if ((xs x3.toNatClampNeg) &&& 63) = 30 then (am_ck (x3 + 1) Lg (am_ck (x3 + 2) Lg (am_ck (x3 + 3) Lg (am_b2 (f173 F (xs (x3 + 1).toNatClampNeg) (xs (x3 + 2).toNatClampNeg) (xs (x3 + 3).toNatClampNeg) S) fun v183 S184 => am_ck (x3 + 1) Lg (am_ck (x3 + 2) Lg (am_ck (x3 + 3) Lg (am_b2 (f271 F (xs (x3 + 1).toNatClampNeg) (xs (x3 + 2).toNatClampNeg) (xs (x3 + 3).toNatClampNeg) S184) fun v185 S186 => if v183 = v185 then (g299_2179 Lg xs F (fun x3 S => g299_18 Lg xs F n x3 S) x3 S186) else (some (0, S186))))))))) else if ((xs x3.toNatClampNeg) &&& 63) = 31 then (am_ck (x3 + 1) Lg (am_ck (x3 + 2) Lg (am_ck (x3 + 3) Lg (am_ck (x3 + 4) Lg (am_b2 (f174 F (xs (x3 + 1).toNatClampNeg) (xs (x3 + 2).toNatClampNeg) (xs (x3 + 3).toNatClampNeg) (xs (x3 + 4).toNatClampNeg) S) fun v189 S190 => am_ck (x3 + 1) Lg (am_ck (x3 + 2) Lg (am_ck (x3 + 3) Lg (am_ck (x3 + 4) Lg (am_b2 (f272 F (xs (x3 + 1).toNatClampNeg) (xs (x3 + 2).toNatClampNeg) (xs (x3 + 3).toNatClampNeg) (xs (x3 + 4).toNatClampNeg) S190) fun v191 S192 => if v189 = v191 then (g299_2179 Lg xs F (fun x3 S => g299_18 Lg xs F n x3 S) x3 S192) else (some (0, S192))))))))))) else if ((xs x3.toNatClampNeg) &&& 63) = 32 then (am_ck (x3 + 1) Lg (am_ck (x3 + 2) Lg (am_ck (x3 + 3) Lg (am_b2 (f175 F (xs (x3 + 1).toNatClampNeg) (xs (x3 + 2).toNatClampNeg) (xs (x3 + 3).toNatClampNeg) S) fun v195 S196 => am_ck (x3 + 1) Lg (am_ck (x3 + 2) Lg (am_ck (x3 + 3) Lg (am_b2 (f273 F (xs (x3 + 1).toNatClampNeg) (xs (x3 + 2).toNatClampNeg) (xs (x3 + 3).toNatClampNeg) S196) fun v197 S198 => if v195 = v197 then (g299_2179 Lg xs F (fun x3 S => g299_18 Lg xs F n x3 S) x3 S198) else (some (0, S198))))))))) else if ((xs x3.toNatClampNeg) &&& 63) = 33 then (am_ck (x3 + 1) Lg (am_b2 (f176 F (xs (x3 + 1).toNatClampNeg) S) fun v201 S202 => am_ck (x3 + 1) Lg (am_b2 (f274 F (xs (x3 + 1).toNatClampNeg) S202) fun v203 S204 => if v201 = v203 then (g299_2179 Lg xs F (fun x3 S => g299_18 Lg xs F n x3 S) x3 S204) else (some (0, S204))))) else if ((xs x3.toNatClampNeg) &&& 63) = 34 then (am_ck (x3 + 1) Lg (am_b2 (f177 F (xs (x3 + 1).toNatClampNeg) S) fun v207 S208 => am_ck (x3 + 1) Lg (am_b2 (f275 F (xs (x3 + 1).toNatClampNeg) S208) fun v209 S210 => if v207 = v209 then (g299_2179 Lg xs F (fun x3 S => g299_18 Lg xs F n x3 S) x3 S210) else (some (0, S210))))) else if ((xs x3.toNatClampNeg) &&& 63) = 35 then (am_ck (x3 + 1) Lg (am_ck (x3 + 2) Lg (am_b2 (f178 F (xs (x3 + 1).toNatClampNeg) (xs (x3 + 2).toNatClampNeg) S) fun v213 S214 => am_ck (x3 + 1) Lg (am_ck (x3 + 2) Lg (am_b2 (f276 F (xs (x3 + 1).toNatClampNeg) (xs (x3 + 2).toNatClampNeg) S214) fun v215 S216 => if v213 = v215 then (g299_2179 Lg xs F (fun x3 S => g299_18 Lg xs F n x3 S) x3 S216) else (some (0, S216))))))) else if ((xs x3.toNatClampNeg) &&& 63) = 36 then (am_ck (x3 + 1) Lg (am_ck (x3 + 2) Lg (am_b2 (f179 F (xs (x3 + 1).toNatClampNeg) (xs (x3 + 2).toNatClampNeg) S) fun v219 S220 => am_ck (x3 + 1) Lg (am_ck (x3 + 2) Lg (am_b2 (f277 F (xs (x3 + 1).toNatClampNeg) (xs (x3 + 2).toNatClampNeg) S220) fun v221 S222 => if v219 = v221 then (g299_2179 Lg xs F (fun x3 S => g299_18 Lg xs F n x3 S) x3 S222) else (some (0, S222))))))) else if ((xs x3.toNatClampNeg) &&& 63) = 37 then (am_ck (x3 + 1) Lg (am_ck (x3 + 2) Lg (am_b2 (f180 F (xs (x3 + 1).toNatClampNeg) (xs (x3 + 2).toNatClampNeg) S) fun v225 S226 => am_ck (x3 + 1) Lg (am_ck (x3 + 2) Lg (am_b2 (f278 F (xs (x3 + 1).toNatClampNeg) (xs (x3 + 2).toNatClampNeg) S226) fun v227 S228 => if v225 = v227 then (g299_2179 Lg xs F (fun x3 S => g299_18 Lg xs F n x3 S) x3 S228) else (some (0, S228))))))) else if ((xs x3.toNatClampNeg) &&& 63) = 38 then (am_ck (x3 + 1) Lg (am_b2 (f181 F (xs (x3 + 1).toNatClampNeg) S) fun v231 S232 => am_ck (x3 + 1) Lg (am_b2 (f279 F (xs (x3 + 1).toNatClampNeg) S232) fun v233 S234 => if v231 = v233 then (g299_2179 Lg xs F (fun x3 S => g299_18 Lg xs F n x3 S) x3 S234) else (some (0, S234))))) else if ((xs x3.toNatClampNeg) &&& 63) = 39 then (am_ck (x3 + 1) Lg (am_b2 (f182 F (xs (x3 + 1).toNatClampNeg) S) fun v237 S238 => am_ck (x3 + 1) Lg (am_b2 (f281 F (xs (x3 + 1).toNatClampNeg) S238) fun v239 S240 => if v237 = v239 then (g299_2179 Lg xs F (fun x3 S => g299_18 Lg xs F n x3 S) x3 S240) else (some (0, S240))))) else if ((xs x3.toNatClampNeg) &&& 63) = 40 then (am_b2 (f183 F S) fun v243 S244 => am_b2 (f282 F S244) fun v245 S246 => if v243 = v245 then (g299_2179 Lg xs F (fun x3 S => g299_18 Lg xs F n x3 S) x3 S246) else (some (0, S246))) else if ((xs x3.toNatClampNeg) &&& 63) = 41 then (am_ck (x3 + 1) Lg (am_b2 (f184 F (xs (x3 + 1).toNatClampNeg) S) fun v249 S250 => am_ck (x3 + 1) Lg (am_b2 (f283 F (xs (x3 + 1).toNatClampNeg) S250) fun v251 S252 => if v249 = v251 then (g299_2179 Lg xs F (fun x3 S => g299_18 Lg xs F n x3 S) x3 S252) else (some (0, S252))))) else if ((xs x3.toNatClampNeg) &&& 63) = 42 then (am_b2 (f185 F S) fun v255 S256 => am_b2 (f287 F S256) fun v257 S258 => if v255 = v257 then (g299_2179 Lg xs F (fun x3 S => g299_18 Lg xs F n x3 S) x3 S258) else (some (0, S258))) else if ((xs x3.toNatClampNeg) &&& 63) = 43 then (am_ck (x3 + 1) Lg (am_b2 (f186 F (xs (x3 + 1).toNatClampNeg) S) fun v261 S262 => am_ck (x3 + 1) Lg (am_b2 (f288 F (xs (x3 + 1).toNatClampNeg) S262) fun v263 S264 => if v261 = v263 then (g299_2179 Lg xs F (fun x3 S => g299_18 Lg xs F n x3 S) x3 S264) else (some (0, S264))))) else if ((xs x3.toNatClampNeg) &&& 63) = 44 then (am_b2 (f187 F S) fun v267 S268 => am_b2 (f289 F S268) fun v269 S270 => if v267 = v269 then (g299_2179 Lg xs F (fun x3 S => g299_18 Lg xs F n x3 S) x3 S270) else (some (0, S270))) else if ((xs x3.toNatClampNeg) &&& 63) = 45 then (am_ck (x3 + 1) Lg (am_ck (x3 + 2) Lg (am_b2 (f188 F (xs (x3 + 1).toNatClampNeg) (xs (x3 + 2).toNatClampNeg) S) fun v273 S274 => am_ck (x3 + 1) Lg (am_ck (x3 + 2) Lg (am_b2 (f290 F (xs (x3 + 1).toNatClampNeg) (xs (x3 + 2).toNatClampNeg) S274) fun v275 S276 => if v273 = v275 then (g299_2179 Lg xs F (fun x3 S => g299_18 Lg xs F n x3 S) x3 S276) else (some (0, S276))))))) else if ((xs x3.toNatClampNeg) &&& 63) = 46 then (am_ck (x3 + 1) Lg (am_b2 (f189 F (xs (x3 + 1).toNatClampNeg) S) fun v279 S280 => am_ck (x3 + 1) Lg (am_b2 (f291 F (xs (x3 + 1).toNatClampNeg) S280) fun v281 S282 => if v279 = v281 then (g299_2179 Lg xs F (fun x3 S => g299_18 Lg xs F n x3 S) x3 S282) else (some (0, S282))))) else if ((xs x3.toNatClampNeg) &&& 63) = 47 then (am_b2 (f190 F S) fun v285 S286 => am_b2 (f204 F S286) fun v287 S288 => if v285 = v287 then (g299_2179 Lg xs F (fun x3 S => g299_18 Lg xs F n x3 S) x3 S288) else (some (0, S288))) else if ((xs x3.toNatClampNeg) &&& 63) = 48 then (am_ck (x3 + 1) Lg (am_b2 (f191 F (xs (x3 + 1).toNatClampNeg) S) fun v291 S292 => am_ck (x3 + 1) Lg (am_b2 (f292 F (xs (x3 + 1).toNatClampNeg) S292) fun v293 S294 => if v291 = v293 then (g299_2179 Lg xs F (fun x3 S => g299_18 Lg xs F n x3 S) x3 S294) else (some (0, S294))))) else if ((xs x3.toNatClampNeg) &&& 63) = 49 then (am_ck (x3 + 1) Lg (am_b2 (f192 F (xs (x3 + 1).toNatClampNeg) S) fun v297 S298 => am_ck (x3 + 1) Lg (am_b2 (f293 F (xs (x3 + 1).toNatClampNeg) S298) fun v299 S300 => if v297 = v299 then (g299_2179 Lg xs F (fun x3 S => g299_18 Lg xs F n x3 S) x3 S300) else (some (0, S300))))) else if ((xs x3.toNatClampNeg) &&& 63) = 50 then (am_ck (x3 + 1) Lg (am_ck (x3 + 2) Lg (am_b2 (f193 F (xs (x3 + 1).toNatClampNeg) (xs (x3 + 2).toNatClampNeg) S) fun v303 S304 => am_ck (x3 + 1) Lg (am_ck (x3 + 2) Lg (am_b2 (f294 F (xs (x3 + 1).toNatClampNeg) (xs (x3 + 2).toNatClampNeg) S304) fun v305 S306 => if v303 = v305 then (g299_2179 Lg xs F (fun x3 S => g299_18 Lg xs F n x3 S) x3 S306) else (some (0, S306))))))) else (g299_2179 Lg xs F (fun x3 S => g299_18 Lg xs F n x3 S) x3 S)))
set_option maxHeartbeats 4000000 in
set_option maxRecDepth 20000 in
theorem e299_2179 {Lg : Nat} {xs : Nat → Int32} {d F : Nat} {k18 : Int32 → AmT → Option (Int32 × AmT)} {x3 : Int32} {S : AmT} {q : Int32 × AmT} (hd : 18 ≤ d) (hk18 : ∀ (x3 : Int32) (S : AmT) (q : Int32 × AmT), k18 x3 S = some q → Ex (am_X Lg xs) d 299 am_c299_18 [.ref 1000000, .ref 0, .ref 95, .int x3] [] (hS S) (some q.1, hS q.2)) (H : g299_2179 Lg xs F k18 x3 S = some q) : Ex (am_X Lg xs) d 299 am_c299_2179 [.ref 1000000, .ref 0, .ref 95, .int x3] [] (hS S) (some q.1, hS q.2) := by
  obtain ⟨d, rfl⟩ : ∃ d2, d = d2 + 1 := ⟨d - 1, by omega⟩
  unfold g299_2179 at H
  refine ex_iinc (L2 := [.ref 1000000, .ref 0, .ref 95, .int (x3 + 9)]) (v := (x3 + 9)) rfl (Nat.le_of_ble_eq_true rfl) (congrArg (fun z => x3 + z) (by decide)) rfl ?_
  refine ex_goto (ct := am_c299_18) rfl ?_
  exact hk18 _ _ _ H
set_option maxHeartbeats 4000000 in
set_option maxRecDepth 20000 in
theorem e299_18 {Lg : Nat} {xs : Nat → Int32} {d F : Nat} (hd : 18 ≤ d) : ∀ (n : Nat) (x3 : Int32) (S : AmT) (q : Int32 × AmT), g299_18 Lg xs F n x3 S = some q → Ex (am_X Lg xs) d 299 am_c299_18 [.ref 1000000, .ref 0, .ref 95, .int x3] [] (hS S) (some q.1, hS q.2) := by
  obtain ⟨d, rfl⟩ : ∃ d2, d = d2 + 1 := ⟨d - 1, by omega⟩
  intro n
  induction n with
  | zero =>
    intro x3 S q H
    cases H
  | succ n ih =>
    intro x3 S q H
    have H : (if ((Int32.ofNat Lg) - 9) < x3 then (some (1, S)) else (am_ck x3 Lg (if ((xs x3.toNatClampNeg) &&& 63) = 0 then (am_ck (x3 + 1) Lg (am_ck (x3 + 2) Lg (am_b2 (f141 F (xs (x3 + 1).toNatClampNeg) (xs (x3 + 2).toNatClampNeg) S) fun v3 S4 => am_ck (x3 + 1) Lg (am_ck (x3 + 2) Lg (am_b2 (f208 F (xs (x3 + 1).toNatClampNeg) (xs (x3 + 2).toNatClampNeg) S4) fun v5 S6 => if v3 = v5 then (g299_2179 Lg xs F (fun x3 S => g299_18 Lg xs F n x3 S) x3 S6) else (some (0, S6))))))) else if ((xs x3.toNatClampNeg) &&& 63) = 1 then (am_ck (x3 + 1) Lg (am_b2 (f142 F (xs (x3 + 1).toNatClampNeg) S) fun v9 S10 => am_ck (x3 + 1) Lg (am_b2 (f209 F (xs (x3 + 1).toNatClampNeg) S10) fun v11 S12 => if v9 = v11 then (g299_2179 Lg xs F (fun x3 S => g299_18 Lg xs F n x3 S) x3 S12) else (some (0, S12))))) else if ((xs x3.toNatClampNeg) &&& 63) = 2 then (am_ck (x3 + 1) Lg (am_ck (x3 + 2) Lg (am_b2 (f143 F (xs (x3 + 1).toNatClampNeg) (xs (x3 + 2).toNatClampNeg) S) fun v15 S16 => am_ck (x3 + 1) Lg (am_ck (x3 + 2) Lg (am_b2 (f210 F (xs (x3 + 1).toNatClampNeg) (xs (x3 + 2).toNatClampNeg) S16) fun v17 S18 => if v15 = v17 then (g299_2179 Lg xs F (fun x3 S => g299_18 Lg xs F n x3 S) x3 S18) else (some (0, S18))))))) else if ((xs x3.toNatClampNeg) &&& 63) = 3 then (am_ck (x3 + 1) Lg (am_ck (x3 + 2) Lg (am_ck (x3 + 3) Lg (am_b2 (f144 F (xs (x3 + 1).toNatClampNeg) (xs (x3 + 2).toNatClampNeg) (xs (x3 + 3).toNatClampNeg) S) fun v21 S22 => am_ck (x3 + 1) Lg (am_ck (x3 + 2) Lg (am_ck (x3 + 3) Lg (am_b2 (f211 F (xs (x3 + 1).toNatClampNeg) (xs (x3 + 2).toNatClampNeg) (xs (x3 + 3).toNatClampNeg) S22) fun v23 S24 => if v21 = v23 then (g299_2179 Lg xs F (fun x3 S => g299_18 Lg xs F n x3 S) x3 S24) else (some (0, S24))))))))) else if ((xs x3.toNatClampNeg) &&& 63) = 4 then (am_ck (x3 + 1) Lg (am_ck (x3 + 2) Lg (am_ck (x3 + 3) Lg (am_ck (x3 + 4) Lg (am_b2 (f145 F (xs (x3 + 1).toNatClampNeg) (xs (x3 + 2).toNatClampNeg) (xs (x3 + 3).toNatClampNeg) (xs (x3 + 4).toNatClampNeg) S) fun v27 S28 => am_ck (x3 + 1) Lg (am_ck (x3 + 2) Lg (am_ck (x3 + 3) Lg (am_ck (x3 + 4) Lg (am_b2 (f214 F (xs (x3 + 1).toNatClampNeg) (xs (x3 + 2).toNatClampNeg) (xs (x3 + 3).toNatClampNeg) (xs (x3 + 4).toNatClampNeg) S28) fun v29 S30 => if v27 = v29 then (g299_2179 Lg xs F (fun x3 S => g299_18 Lg xs F n x3 S) x3 S30) else (some (0, S30))))))))))) else if ((xs x3.toNatClampNeg) &&& 63) = 5 then (am_ck (x3 + 1) Lg (am_ck (x3 + 2) Lg (am_ck (x3 + 3) Lg (am_b2 (f146 F (xs (x3 + 1).toNatClampNeg) (xs (x3 + 2).toNatClampNeg) (xs (x3 + 3).toNatClampNeg) S) fun v33 S34 => am_ck (x3 + 1) Lg (am_ck (x3 + 2) Lg (am_ck (x3 + 3) Lg (am_b2 (f215 F (xs (x3 + 1).toNatClampNeg) (xs (x3 + 2).toNatClampNeg) (xs (x3 + 3).toNatClampNeg) S34) fun v35 S36 => if v33 = v35 then (g299_2179 Lg xs F (fun x3 S => g299_18 Lg xs F n x3 S) x3 S36) else (some (0, S36))))))))) else if ((xs x3.toNatClampNeg) &&& 63) = 6 then (am_ck (x3 + 1) Lg (am_ck (x3 + 2) Lg (am_ck (x3 + 3) Lg (am_ck (x3 + 4) Lg (am_ck (x3 + 5) Lg (am_b2 (f147 F (xs (x3 + 1).toNatClampNeg) (xs (x3 + 2).toNatClampNeg) (xs (x3 + 3).toNatClampNeg) (xs (x3 + 4).toNatClampNeg) (xs (x3 + 5).toNatClampNeg) S) fun v39 S40 => am_ck (x3 + 1) Lg (am_ck (x3 + 2) Lg (am_ck (x3 + 3) Lg (am_ck (x3 + 4) Lg (am_ck (x3 + 5) Lg (am_b2 (f216 F (xs (x3 + 1).toNatClampNeg) (xs (x3 + 2).toNatClampNeg) (xs (x3 + 3).toNatClampNeg) (xs (x3 + 4).toNatClampNeg) (xs (x3 + 5).toNatClampNeg) S40) fun v41 S42 => if v39 = v41 then (g299_2179 Lg xs F (fun x3 S => g299_18 Lg xs F n x3 S) x3 S42) else (some (0, S42))))))))))))) else if ((xs x3.toNatClampNeg) &&& 63) = 7 then (am_ck (x3 + 1) Lg (am_ck (x3 + 2) Lg (am_ck (x3 + 3) Lg (am_ck (x3 + 4) Lg (am_b2 (f148 F (xs (x3 + 1).toNatClampNeg) (xs (x3 + 2).toNatClampNeg) (xs (x3 + 3).toNatClampNeg) (xs (x3 + 4).toNatClampNeg) S) fun v45 S46 => am_ck (x3 + 1) Lg (am_ck (x3 + 2) Lg (am_ck (x3 + 3) Lg (am_ck (x3 + 4) Lg (am_b2 (f217 F (xs (x3 + 1).toNatClampNeg) (xs (x3 + 2).toNatClampNeg) (xs (x3 + 3).toNatClampNeg) (xs (x3 + 4).toNatClampNeg) S46) fun v47 S48 => if v45 = v47 then (g299_2179 Lg xs F (fun x3 S => g299_18 Lg xs F n x3 S) x3 S48) else (some (0, S48))))))))))) else if ((xs x3.toNatClampNeg) &&& 63) = 8 then (am_ck (x3 + 1) Lg (am_ck (x3 + 2) Lg (am_ck (x3 + 3) Lg (am_b2 (f149 F (xs (x3 + 1).toNatClampNeg) (xs (x3 + 2).toNatClampNeg) (xs (x3 + 3).toNatClampNeg) S) fun v51 S52 => am_ck (x3 + 1) Lg (am_ck (x3 + 2) Lg (am_ck (x3 + 3) Lg (am_b2 (f218 F (xs (x3 + 1).toNatClampNeg) (xs (x3 + 2).toNatClampNeg) (xs (x3 + 3).toNatClampNeg) S52) fun v53 S54 => if v51 = v53 then (g299_2179 Lg xs F (fun x3 S => g299_18 Lg xs F n x3 S) x3 S54) else (some (0, S54))))))))) else if ((xs x3.toNatClampNeg) &&& 63) = 9 then (am_ck (x3 + 1) Lg (am_ck (x3 + 2) Lg (am_ck (x3 + 3) Lg (am_ck (x3 + 4) Lg (am_ck (x3 + 5) Lg (am_ck (x3 + 6) Lg (am_ck (x3 + 7) Lg (am_b2 (f150 F (xs (x3 + 1).toNatClampNeg) (xs (x3 + 2).toNatClampNeg) (xs (x3 + 3).toNatClampNeg) (xs (x3 + 4).toNatClampNeg) (xs (x3 + 5).toNatClampNeg) (xs (x3 + 6).toNatClampNeg) (xs (x3 + 7).toNatClampNeg) S) fun v57 S58 => am_ck (x3 + 1) Lg (am_ck (x3 + 2) Lg (am_ck (x3 + 3) Lg (am_ck (x3 + 4) Lg (am_ck (x3 + 5) Lg (am_ck (x3 + 6) Lg (am_ck (x3 + 7) Lg (am_b2 (f220 F (xs (x3 + 1).toNatClampNeg) (xs (x3 + 2).toNatClampNeg) (xs (x3 + 3).toNatClampNeg) (xs (x3 + 4).toNatClampNeg) (xs (x3 + 5).toNatClampNeg) (xs (x3 + 6).toNatClampNeg) (xs (x3 + 7).toNatClampNeg) S58) fun v59 S60 => if v57 = v59 then (g299_2179 Lg xs F (fun x3 S => g299_18 Lg xs F n x3 S) x3 S60) else (some (0, S60))))))))))))))))) else if ((xs x3.toNatClampNeg) &&& 63) = 10 then (am_b2 (f151 F S) fun v63 S64 => am_b2 (f221 F S64) fun v65 S66 => if v63 = v65 then (g299_2179 Lg xs F (fun x3 S => g299_18 Lg xs F n x3 S) x3 S66) else (some (0, S66))) else if ((xs x3.toNatClampNeg) &&& 63) = 11 then (am_ck (x3 + 1) Lg (am_ck (x3 + 2) Lg (am_ck (x3 + 3) Lg (am_b2 (f152 F (xs (x3 + 1).toNatClampNeg) (xs (x3 + 2).toNatClampNeg) (xs (x3 + 3).toNatClampNeg) S) fun v69 S70 => am_ck (x3 + 1) Lg (am_ck (x3 + 2) Lg (am_ck (x3 + 3) Lg (am_b2 (f222 F (xs (x3 + 1).toNatClampNeg) (xs (x3 + 2).toNatClampNeg) (xs (x3 + 3).toNatClampNeg) S70) fun v71 S72 => if v69 = v71 then (g299_2179 Lg xs F (fun x3 S => g299_18 Lg xs F n x3 S) x3 S72) else (some (0, S72))))))))) else if ((xs x3.toNatClampNeg) &&& 63) = 12 then (am_ck (x3 + 1) Lg (am_ck (x3 + 2) Lg (am_b2 (f153 F (xs (x3 + 1).toNatClampNeg) (xs (x3 + 2).toNatClampNeg) S) fun v75 S76 => am_ck (x3 + 1) Lg (am_ck (x3 + 2) Lg (am_b2 (f223 F (xs (x3 + 1).toNatClampNeg) (xs (x3 + 2).toNatClampNeg) S76) fun v77 S78 => if v75 = v77 then (g299_2179 Lg xs F (fun x3 S => g299_18 Lg xs F n x3 S) x3 S78) else (some (0, S78))))))) else if ((xs x3.toNatClampNeg) &&& 63) = 13 then (am_ck (x3 + 1) Lg (am_ck (x3 + 2) Lg (am_b2 (f154 F (xs (x3 + 1).toNatClampNeg) (xs (x3 + 2).toNatClampNeg) S) fun v81 S82 => am_ck (x3 + 1) Lg (am_ck (x3 + 2) Lg (am_b2 (f226 F (xs (x3 + 1).toNatClampNeg) (xs (x3 + 2).toNatClampNeg) S82) fun v83 S84 => if v81 = v83 then (g299_2179 Lg xs F (fun x3 S => g299_18 Lg xs F n x3 S) x3 S84) else (some (0, S84))))))) else if ((xs x3.toNatClampNeg) &&& 63) = 14 then (am_ck (x3 + 1) Lg (am_ck (x3 + 2) Lg (am_b2 (f155 F (xs (x3 + 1).toNatClampNeg) (xs (x3 + 2).toNatClampNeg) S) fun v87 S88 => am_ck (x3 + 1) Lg (am_ck (x3 + 2) Lg (am_b2 (f227 F (xs (x3 + 1).toNatClampNeg) (xs (x3 + 2).toNatClampNeg) S88) fun v89 S90 => if v87 = v89 then (g299_2179 Lg xs F (fun x3 S => g299_18 Lg xs F n x3 S) x3 S90) else (some (0, S90))))))) else if ((xs x3.toNatClampNeg) &&& 63) = 15 then (am_ck (x3 + 1) Lg (am_b2 (f156 F (xs (x3 + 1).toNatClampNeg) S) fun v93 S94 => am_ck (x3 + 1) Lg (am_b2 (f228 F (xs (x3 + 1).toNatClampNeg) S94) fun v95 S96 => if v93 = v95 then (g299_2179 Lg xs F (fun x3 S => g299_18 Lg xs F n x3 S) x3 S96) else (some (0, S96))))) else if ((xs x3.toNatClampNeg) &&& 63) = 16 then (am_ck (x3 + 1) Lg (am_ck (x3 + 2) Lg (am_b2 (f157 F (xs (x3 + 1).toNatClampNeg) (xs (x3 + 2).toNatClampNeg) S) fun v99 S100 => am_ck (x3 + 1) Lg (am_ck (x3 + 2) Lg (am_b2 (f229 F (xs (x3 + 1).toNatClampNeg) (xs (x3 + 2).toNatClampNeg) S100) fun v101 S102 => if v99 = v101 then (g299_2179 Lg xs F (fun x3 S => g299_18 Lg xs F n x3 S) x3 S102) else (some (0, S102))))))) else if ((xs x3.toNatClampNeg) &&& 63) = 17 then (am_ck (x3 + 1) Lg (am_ck (x3 + 2) Lg (am_b2 (f158 F (xs (x3 + 1).toNatClampNeg) (xs (x3 + 2).toNatClampNeg) S) fun v105 S106 => am_ck (x3 + 1) Lg (am_ck (x3 + 2) Lg (am_b2 (f232 F (xs (x3 + 1).toNatClampNeg) (xs (x3 + 2).toNatClampNeg) S106) fun v107 S108 => if v105 = v107 then (g299_2179 Lg xs F (fun x3 S => g299_18 Lg xs F n x3 S) x3 S108) else (some (0, S108))))))) else if ((xs x3.toNatClampNeg) &&& 63) = 18 then (am_ck (x3 + 1) Lg (am_ck (x3 + 2) Lg (am_ck (x3 + 3) Lg (am_ck (x3 + 4) Lg (am_ck (x3 + 5) Lg (am_b2 (f159 F (xs (x3 + 1).toNatClampNeg) (xs (x3 + 2).toNatClampNeg) (xs (x3 + 3).toNatClampNeg) (xs (x3 + 4).toNatClampNeg) (xs (x3 + 5).toNatClampNeg) S) fun v111 S112 => am_ck (x3 + 1) Lg (am_ck (x3 + 2) Lg (am_ck (x3 + 3) Lg (am_ck (x3 + 4) Lg (am_ck (x3 + 5) Lg (am_b2 (f247 F (xs (x3 + 1).toNatClampNeg) (xs (x3 + 2).toNatClampNeg) (xs (x3 + 3).toNatClampNeg) (xs (x3 + 4).toNatClampNeg) (xs (x3 + 5).toNatClampNeg) S112) fun v113 S114 => if v111 = v113 then (g299_2179 Lg xs F (fun x3 S => g299_18 Lg xs F n x3 S) x3 S114) else (some (0, S114))))))))))))) else if ((xs x3.toNatClampNeg) &&& 63) = 19 then (am_ck (x3 + 1) Lg (am_ck (x3 + 2) Lg (am_ck (x3 + 3) Lg (am_b2 (f160 F (xs (x3 + 1).toNatClampNeg) (xs (x3 + 2).toNatClampNeg) (xs (x3 + 3).toNatClampNeg) S) fun v117 S118 => am_ck (x3 + 1) Lg (am_ck (x3 + 2) Lg (am_ck (x3 + 3) Lg (am_b2 (f248 F (xs (x3 + 1).toNatClampNeg) (xs (x3 + 2).toNatClampNeg) (xs (x3 + 3).toNatClampNeg) S118) fun v119 S120 => if v117 = v119 then (g299_2179 Lg xs F (fun x3 S => g299_18 Lg xs F n x3 S) x3 S120) else (some (0, S120))))))))) else if ((xs x3.toNatClampNeg) &&& 63) = 20 then (am_ck (x3 + 1) Lg (am_ck (x3 + 2) Lg (am_ck (x3 + 3) Lg (am_b2 (f163 F (xs (x3 + 1).toNatClampNeg) (xs (x3 + 2).toNatClampNeg) (xs (x3 + 3).toNatClampNeg) S) fun v123 S124 => am_ck (x3 + 1) Lg (am_ck (x3 + 2) Lg (am_ck (x3 + 3) Lg (am_b2 (f252 F (xs (x3 + 1).toNatClampNeg) (xs (x3 + 2).toNatClampNeg) (xs (x3 + 3).toNatClampNeg) S124) fun v125 S126 => if v123 = v125 then (g299_2179 Lg xs F (fun x3 S => g299_18 Lg xs F n x3 S) x3 S126) else (some (0, S126))))))))) else if ((xs x3.toNatClampNeg) &&& 63) = 21 then (am_ck (x3 + 1) Lg (am_ck (x3 + 2) Lg (am_ck (x3 + 3) Lg (am_b2 (f164 F (xs (x3 + 1).toNatClampNeg) (xs (x3 + 2).toNatClampNeg) (xs (x3 + 3).toNatClampNeg) S) fun v129 S130 => am_ck (x3 + 1) Lg (am_ck (x3 + 2) Lg (am_ck (x3 + 3) Lg (am_b2 (f253 F (xs (x3 + 1).toNatClampNeg) (xs (x3 + 2).toNatClampNeg) (xs (x3 + 3).toNatClampNeg) S130) fun v131 S132 => if v129 = v131 then (g299_2179 Lg xs F (fun x3 S => g299_18 Lg xs F n x3 S) x3 S132) else (some (0, S132))))))))) else if ((xs x3.toNatClampNeg) &&& 63) = 22 then (am_ck (x3 + 1) Lg (am_ck (x3 + 2) Lg (am_ck (x3 + 3) Lg (am_ck (x3 + 4) Lg (am_ck (x3 + 5) Lg (am_ck (x3 + 6) Lg (am_b2 (f165 F (xs (x3 + 1).toNatClampNeg) (xs (x3 + 2).toNatClampNeg) (xs (x3 + 3).toNatClampNeg) (xs (x3 + 4).toNatClampNeg) (xs (x3 + 5).toNatClampNeg) (xs (x3 + 6).toNatClampNeg) S) fun v135 S136 => am_ck (x3 + 1) Lg (am_ck (x3 + 2) Lg (am_ck (x3 + 3) Lg (am_ck (x3 + 4) Lg (am_ck (x3 + 5) Lg (am_ck (x3 + 6) Lg (am_b2 (f255 F (xs (x3 + 1).toNatClampNeg) (xs (x3 + 2).toNatClampNeg) (xs (x3 + 3).toNatClampNeg) (xs (x3 + 4).toNatClampNeg) (xs (x3 + 5).toNatClampNeg) (xs (x3 + 6).toNatClampNeg) S136) fun v137 S138 => if v135 = v137 then (g299_2179 Lg xs F (fun x3 S => g299_18 Lg xs F n x3 S) x3 S138) else (some (0, S138))))))))))))))) else if ((xs x3.toNatClampNeg) &&& 63) = 23 then (am_ck (x3 + 1) Lg (am_ck (x3 + 2) Lg (am_ck (x3 + 3) Lg (am_ck (x3 + 4) Lg (am_ck (x3 + 5) Lg (am_b2 (f166 F (xs (x3 + 1).toNatClampNeg) (xs (x3 + 2).toNatClampNeg) (xs (x3 + 3).toNatClampNeg) (xs (x3 + 4).toNatClampNeg) (xs (x3 + 5).toNatClampNeg) S) fun v141 S142 => am_ck (x3 + 1) Lg (am_ck (x3 + 2) Lg (am_ck (x3 + 3) Lg (am_ck (x3 + 4) Lg (am_ck (x3 + 5) Lg (am_b2 (f256 F (xs (x3 + 1).toNatClampNeg) (xs (x3 + 2).toNatClampNeg) (xs (x3 + 3).toNatClampNeg) (xs (x3 + 4).toNatClampNeg) (xs (x3 + 5).toNatClampNeg) S142) fun v143 S144 => if v141 = v143 then (g299_2179 Lg xs F (fun x3 S => g299_18 Lg xs F n x3 S) x3 S144) else (some (0, S144))))))))))))) else if ((xs x3.toNatClampNeg) &&& 63) = 24 then (am_ck (x3 + 1) Lg (am_ck (x3 + 2) Lg (am_ck (x3 + 3) Lg (am_ck (x3 + 4) Lg (am_ck (x3 + 5) Lg (am_ck (x3 + 6) Lg (am_ck (x3 + 7) Lg (am_ck (x3 + 8) Lg (am_b2 (f167 F (xs (x3 + 1).toNatClampNeg) (xs (x3 + 2).toNatClampNeg) (xs (x3 + 3).toNatClampNeg) (xs (x3 + 4).toNatClampNeg) (xs (x3 + 5).toNatClampNeg) (xs (x3 + 6).toNatClampNeg) (xs (x3 + 7).toNatClampNeg) (xs (x3 + 8).toNatClampNeg) S) fun v147 S148 => am_ck (x3 + 1) Lg (am_ck (x3 + 2) Lg (am_ck (x3 + 3) Lg (am_ck (x3 + 4) Lg (am_ck (x3 + 5) Lg (am_ck (x3 + 6) Lg (am_ck (x3 + 7) Lg (am_ck (x3 + 8) Lg (am_b2 (f258 F (xs (x3 + 1).toNatClampNeg) (xs (x3 + 2).toNatClampNeg) (xs (x3 + 3).toNatClampNeg) (xs (x3 + 4).toNatClampNeg) (xs (x3 + 5).toNatClampNeg) (xs (x3 + 6).toNatClampNeg) (xs (x3 + 7).toNatClampNeg) (xs (x3 + 8).toNatClampNeg) S148) fun v149 S150 => if v147 = v149 then (g299_2179 Lg xs F (fun x3 S => g299_18 Lg xs F n x3 S) x3 S150) else (some (0, S150))))))))))))))))))) else if ((xs x3.toNatClampNeg) &&& 63) = 25 then (am_ck (x3 + 1) Lg (am_ck (x3 + 2) Lg (am_ck (x3 + 3) Lg (am_b2 (f168 F (xs (x3 + 1).toNatClampNeg) (xs (x3 + 2).toNatClampNeg) (xs (x3 + 3).toNatClampNeg) S) fun v153 S154 => am_ck (x3 + 1) Lg (am_ck (x3 + 2) Lg (am_ck (x3 + 3) Lg (am_b2 (f264 F (xs (x3 + 1).toNatClampNeg) (xs (x3 + 2).toNatClampNeg) (xs (x3 + 3).toNatClampNeg) S154) fun v155 S156 => if v153 = v155 then (g299_2179 Lg xs F (fun x3 S => g299_18 Lg xs F n x3 S) x3 S156) else (some (0, S156))))))))) else if ((xs x3.toNatClampNeg) &&& 63) = 26 then (am_ck (x3 + 1) Lg (am_ck (x3 + 2) Lg (am_ck (x3 + 3) Lg (am_b2 (f169 F (xs (x3 + 1).toNatClampNeg) (xs (x3 + 2).toNatClampNeg) (xs (x3 + 3).toNatClampNeg) S) fun v159 S160 => am_ck (x3 + 1) Lg (am_ck (x3 + 2) Lg (am_ck (x3 + 3) Lg (am_b2 (f265 F (xs (x3 + 1).toNatClampNeg) (xs (x3 + 2).toNatClampNeg) (xs (x3 + 3).toNatClampNeg) S160) fun v161 S162 => if v159 = v161 then (g299_2179 Lg xs F (fun x3 S => g299_18 Lg xs F n x3 S) x3 S162) else (some (0, S162))))))))) else if ((xs x3.toNatClampNeg) &&& 63) = 27 then (am_ck (x3 + 1) Lg (am_ck (x3 + 2) Lg (am_ck (x3 + 3) Lg (am_ck (x3 + 4) Lg (am_ck (x3 + 5) Lg (am_ck (x3 + 6) Lg (am_b2 (f170 F (xs (x3 + 1).toNatClampNeg) (xs (x3 + 2).toNatClampNeg) (xs (x3 + 3).toNatClampNeg) (xs (x3 + 4).toNatClampNeg) (xs (x3 + 5).toNatClampNeg) (xs (x3 + 6).toNatClampNeg) S) fun v165 S166 => am_ck (x3 + 1) Lg (am_ck (x3 + 2) Lg (am_ck (x3 + 3) Lg (am_ck (x3 + 4) Lg (am_ck (x3 + 5) Lg (am_ck (x3 + 6) Lg (am_b2 (f267 F (xs (x3 + 1).toNatClampNeg) (xs (x3 + 2).toNatClampNeg) (xs (x3 + 3).toNatClampNeg) (xs (x3 + 4).toNatClampNeg) (xs (x3 + 5).toNatClampNeg) (xs (x3 + 6).toNatClampNeg) S166) fun v167 S168 => if v165 = v167 then (g299_2179 Lg xs F (fun x3 S => g299_18 Lg xs F n x3 S) x3 S168) else (some (0, S168))))))))))))))) else if ((xs x3.toNatClampNeg) &&& 63) = 28 then (am_ck (x3 + 1) Lg (am_b2 (f171 F (xs (x3 + 1).toNatClampNeg) S) fun v171 S172 => am_ck (x3 + 1) Lg (am_b2 (f269 F (xs (x3 + 1).toNatClampNeg) S172) fun v173 S174 => if v171 = v173 then (g299_2179 Lg xs F (fun x3 S => g299_18 Lg xs F n x3 S) x3 S174) else (some (0, S174))))) else if ((xs x3.toNatClampNeg) &&& 63) = 29 then (am_ck (x3 + 1) Lg (am_ck (x3 + 2) Lg (am_b2 (f172 F (xs (x3 + 1).toNatClampNeg) (xs (x3 + 2).toNatClampNeg) S) fun v177 S178 => am_ck (x3 + 1) Lg (am_ck (x3 + 2) Lg (am_b2 (f270 F (xs (x3 + 1).toNatClampNeg) (xs (x3 + 2).toNatClampNeg) S178) fun v179 S180 => if v177 = v179 then (g299_2179 Lg xs F (fun x3 S => g299_18 Lg xs F n x3 S) x3 S180) else (some (0, S180))))))) else if ((xs x3.toNatClampNeg) &&& 63) = 30 then (am_ck (x3 + 1) Lg (am_ck (x3 + 2) Lg (am_ck (x3 + 3) Lg (am_b2 (f173 F (xs (x3 + 1).toNatClampNeg) (xs (x3 + 2).toNatClampNeg) (xs (x3 + 3).toNatClampNeg) S) fun v183 S184 => am_ck (x3 + 1) Lg (am_ck (x3 + 2) Lg (am_ck (x3 + 3) Lg (am_b2 (f271 F (xs (x3 + 1).toNatClampNeg) (xs (x3 + 2).toNatClampNeg) (xs (x3 + 3).toNatClampNeg) S184) fun v185 S186 => if v183 = v185 then (g299_2179 Lg xs F (fun x3 S => g299_18 Lg xs F n x3 S) x3 S186) else (some (0, S186))))))))) else if ((xs x3.toNatClampNeg) &&& 63) = 31 then (am_ck (x3 + 1) Lg (am_ck (x3 + 2) Lg (am_ck (x3 + 3) Lg (am_ck (x3 + 4) Lg (am_b2 (f174 F (xs (x3 + 1).toNatClampNeg) (xs (x3 + 2).toNatClampNeg) (xs (x3 + 3).toNatClampNeg) (xs (x3 + 4).toNatClampNeg) S) fun v189 S190 => am_ck (x3 + 1) Lg (am_ck (x3 + 2) Lg (am_ck (x3 + 3) Lg (am_ck (x3 + 4) Lg (am_b2 (f272 F (xs (x3 + 1).toNatClampNeg) (xs (x3 + 2).toNatClampNeg) (xs (x3 + 3).toNatClampNeg) (xs (x3 + 4).toNatClampNeg) S190) fun v191 S192 => if v189 = v191 then (g299_2179 Lg xs F (fun x3 S => g299_18 Lg xs F n x3 S) x3 S192) else (some (0, S192))))))))))) else if ((xs x3.toNatClampNeg) &&& 63) = 32 then (am_ck (x3 + 1) Lg (am_ck (x3 + 2) Lg (am_ck (x3 + 3) Lg (am_b2 (f175 F (xs (x3 + 1).toNatClampNeg) (xs (x3 + 2).toNatClampNeg) (xs (x3 + 3).toNatClampNeg) S) fun v195 S196 => am_ck (x3 + 1) Lg (am_ck (x3 + 2) Lg (am_ck (x3 + 3) Lg (am_b2 (f273 F (xs (x3 + 1).toNatClampNeg) (xs (x3 + 2).toNatClampNeg) (xs (x3 + 3).toNatClampNeg) S196) fun v197 S198 => if v195 = v197 then (g299_2179 Lg xs F (fun x3 S => g299_18 Lg xs F n x3 S) x3 S198) else (some (0, S198))))))))) else if ((xs x3.toNatClampNeg) &&& 63) = 33 then (am_ck (x3 + 1) Lg (am_b2 (f176 F (xs (x3 + 1).toNatClampNeg) S) fun v201 S202 => am_ck (x3 + 1) Lg (am_b2 (f274 F (xs (x3 + 1).toNatClampNeg) S202) fun v203 S204 => if v201 = v203 then (g299_2179 Lg xs F (fun x3 S => g299_18 Lg xs F n x3 S) x3 S204) else (some (0, S204))))) else if ((xs x3.toNatClampNeg) &&& 63) = 34 then (am_ck (x3 + 1) Lg (am_b2 (f177 F (xs (x3 + 1).toNatClampNeg) S) fun v207 S208 => am_ck (x3 + 1) Lg (am_b2 (f275 F (xs (x3 + 1).toNatClampNeg) S208) fun v209 S210 => if v207 = v209 then (g299_2179 Lg xs F (fun x3 S => g299_18 Lg xs F n x3 S) x3 S210) else (some (0, S210))))) else if ((xs x3.toNatClampNeg) &&& 63) = 35 then (am_ck (x3 + 1) Lg (am_ck (x3 + 2) Lg (am_b2 (f178 F (xs (x3 + 1).toNatClampNeg) (xs (x3 + 2).toNatClampNeg) S) fun v213 S214 => am_ck (x3 + 1) Lg (am_ck (x3 + 2) Lg (am_b2 (f276 F (xs (x3 + 1).toNatClampNeg) (xs (x3 + 2).toNatClampNeg) S214) fun v215 S216 => if v213 = v215 then (g299_2179 Lg xs F (fun x3 S => g299_18 Lg xs F n x3 S) x3 S216) else (some (0, S216))))))) else if ((xs x3.toNatClampNeg) &&& 63) = 36 then (am_ck (x3 + 1) Lg (am_ck (x3 + 2) Lg (am_b2 (f179 F (xs (x3 + 1).toNatClampNeg) (xs (x3 + 2).toNatClampNeg) S) fun v219 S220 => am_ck (x3 + 1) Lg (am_ck (x3 + 2) Lg (am_b2 (f277 F (xs (x3 + 1).toNatClampNeg) (xs (x3 + 2).toNatClampNeg) S220) fun v221 S222 => if v219 = v221 then (g299_2179 Lg xs F (fun x3 S => g299_18 Lg xs F n x3 S) x3 S222) else (some (0, S222))))))) else if ((xs x3.toNatClampNeg) &&& 63) = 37 then (am_ck (x3 + 1) Lg (am_ck (x3 + 2) Lg (am_b2 (f180 F (xs (x3 + 1).toNatClampNeg) (xs (x3 + 2).toNatClampNeg) S) fun v225 S226 => am_ck (x3 + 1) Lg (am_ck (x3 + 2) Lg (am_b2 (f278 F (xs (x3 + 1).toNatClampNeg) (xs (x3 + 2).toNatClampNeg) S226) fun v227 S228 => if v225 = v227 then (g299_2179 Lg xs F (fun x3 S => g299_18 Lg xs F n x3 S) x3 S228) else (some (0, S228))))))) else if ((xs x3.toNatClampNeg) &&& 63) = 38 then (am_ck (x3 + 1) Lg (am_b2 (f181 F (xs (x3 + 1).toNatClampNeg) S) fun v231 S232 => am_ck (x3 + 1) Lg (am_b2 (f279 F (xs (x3 + 1).toNatClampNeg) S232) fun v233 S234 => if v231 = v233 then (g299_2179 Lg xs F (fun x3 S => g299_18 Lg xs F n x3 S) x3 S234) else (some (0, S234))))) else if ((xs x3.toNatClampNeg) &&& 63) = 39 then (am_ck (x3 + 1) Lg (am_b2 (f182 F (xs (x3 + 1).toNatClampNeg) S) fun v237 S238 => am_ck (x3 + 1) Lg (am_b2 (f281 F (xs (x3 + 1).toNatClampNeg) S238) fun v239 S240 => if v237 = v239 then (g299_2179 Lg xs F (fun x3 S => g299_18 Lg xs F n x3 S) x3 S240) else (some (0, S240))))) else if ((xs x3.toNatClampNeg) &&& 63) = 40 then (am_b2 (f183 F S) fun v243 S244 => am_b2 (f282 F S244) fun v245 S246 => if v243 = v245 then (g299_2179 Lg xs F (fun x3 S => g299_18 Lg xs F n x3 S) x3 S246) else (some (0, S246))) else if ((xs x3.toNatClampNeg) &&& 63) = 41 then (am_ck (x3 + 1) Lg (am_b2 (f184 F (xs (x3 + 1).toNatClampNeg) S) fun v249 S250 => am_ck (x3 + 1) Lg (am_b2 (f283 F (xs (x3 + 1).toNatClampNeg) S250) fun v251 S252 => if v249 = v251 then (g299_2179 Lg xs F (fun x3 S => g299_18 Lg xs F n x3 S) x3 S252) else (some (0, S252))))) else if ((xs x3.toNatClampNeg) &&& 63) = 42 then (am_b2 (f185 F S) fun v255 S256 => am_b2 (f287 F S256) fun v257 S258 => if v255 = v257 then (g299_2179 Lg xs F (fun x3 S => g299_18 Lg xs F n x3 S) x3 S258) else (some (0, S258))) else if ((xs x3.toNatClampNeg) &&& 63) = 43 then (am_ck (x3 + 1) Lg (am_b2 (f186 F (xs (x3 + 1).toNatClampNeg) S) fun v261 S262 => am_ck (x3 + 1) Lg (am_b2 (f288 F (xs (x3 + 1).toNatClampNeg) S262) fun v263 S264 => if v261 = v263 then (g299_2179 Lg xs F (fun x3 S => g299_18 Lg xs F n x3 S) x3 S264) else (some (0, S264))))) else if ((xs x3.toNatClampNeg) &&& 63) = 44 then (am_b2 (f187 F S) fun v267 S268 => am_b2 (f289 F S268) fun v269 S270 => if v267 = v269 then (g299_2179 Lg xs F (fun x3 S => g299_18 Lg xs F n x3 S) x3 S270) else (some (0, S270))) else if ((xs x3.toNatClampNeg) &&& 63) = 45 then (am_ck (x3 + 1) Lg (am_ck (x3 + 2) Lg (am_b2 (f188 F (xs (x3 + 1).toNatClampNeg) (xs (x3 + 2).toNatClampNeg) S) fun v273 S274 => am_ck (x3 + 1) Lg (am_ck (x3 + 2) Lg (am_b2 (f290 F (xs (x3 + 1).toNatClampNeg) (xs (x3 + 2).toNatClampNeg) S274) fun v275 S276 => if v273 = v275 then (g299_2179 Lg xs F (fun x3 S => g299_18 Lg xs F n x3 S) x3 S276) else (some (0, S276))))))) else if ((xs x3.toNatClampNeg) &&& 63) = 46 then (am_ck (x3 + 1) Lg (am_b2 (f189 F (xs (x3 + 1).toNatClampNeg) S) fun v279 S280 => am_ck (x3 + 1) Lg (am_b2 (f291 F (xs (x3 + 1).toNatClampNeg) S280) fun v281 S282 => if v279 = v281 then (g299_2179 Lg xs F (fun x3 S => g299_18 Lg xs F n x3 S) x3 S282) else (some (0, S282))))) else if ((xs x3.toNatClampNeg) &&& 63) = 47 then (am_b2 (f190 F S) fun v285 S286 => am_b2 (f204 F S286) fun v287 S288 => if v285 = v287 then (g299_2179 Lg xs F (fun x3 S => g299_18 Lg xs F n x3 S) x3 S288) else (some (0, S288))) else if ((xs x3.toNatClampNeg) &&& 63) = 48 then (am_ck (x3 + 1) Lg (am_b2 (f191 F (xs (x3 + 1).toNatClampNeg) S) fun v291 S292 => am_ck (x3 + 1) Lg (am_b2 (f292 F (xs (x3 + 1).toNatClampNeg) S292) fun v293 S294 => if v291 = v293 then (g299_2179 Lg xs F (fun x3 S => g299_18 Lg xs F n x3 S) x3 S294) else (some (0, S294))))) else if ((xs x3.toNatClampNeg) &&& 63) = 49 then (am_ck (x3 + 1) Lg (am_b2 (f192 F (xs (x3 + 1).toNatClampNeg) S) fun v297 S298 => am_ck (x3 + 1) Lg (am_b2 (f293 F (xs (x3 + 1).toNatClampNeg) S298) fun v299 S300 => if v297 = v299 then (g299_2179 Lg xs F (fun x3 S => g299_18 Lg xs F n x3 S) x3 S300) else (some (0, S300))))) else if ((xs x3.toNatClampNeg) &&& 63) = 50 then (am_ck (x3 + 1) Lg (am_ck (x3 + 2) Lg (am_b2 (f193 F (xs (x3 + 1).toNatClampNeg) (xs (x3 + 2).toNatClampNeg) S) fun v303 S304 => am_ck (x3 + 1) Lg (am_ck (x3 + 2) Lg (am_b2 (f294 F (xs (x3 + 1).toNatClampNeg) (xs (x3 + 2).toNatClampNeg) S304) fun v305 S306 => if v303 = v305 then (g299_2179 Lg xs F (fun x3 S => g299_18 Lg xs F n x3 S) x3 S306) else (some (0, S306))))))) else (g299_2179 Lg xs F (fun x3 S => g299_18 Lg xs F n x3 S) x3 S)))) = some q := H
    refine ex_iload_n rfl ?_
    refine ex_aload_n rfl ?_
    refine ex_alen (k := Lg) (v := Int32.ofNat Lg) rfl rfl ?_
    refine ex_bipush (v := 9) (by decide) ?_
    refine ex_isub ?_
    by_cases h1 : ((Int32.ofNat Lg) - 9) < x3
    · rw [if_pos h1] at H
      refine ex_icmp_gt_j (ct := am_c299_2185) h1 rfl ?_
      refine ex_iconst (v := 1) (by decide) ?_
      have H := Option.some.inj H
      subst H
      exact ex_iret (M := 299) (Or.inr ⟨rfl, by decide⟩)
    · rw [if_neg h1] at H
      refine ex_icmp_gt_f h1 ?_
      refine ex_aload_n rfl ?_
      refine ex_iload_n rfl ?_
      obtain ⟨hj, H⟩ := am_ck_el H
      refine ex_iald (k := Lg) (v := xs x3.toNatClampNeg) rfl hj rfl ?_
      refine ex_bipush (v := 63) (by decide) ?_
      refine ex_iand ?_
      by_cases h2 : ((xs x3.toNatClampNeg) &&& 63) = 0
      · rw [if_pos h2] at H
        refine ex_table (off := 219) (ct := am_c299_252) (by rw [h2]; decide) rfl ?_
        refine ex_aload_n rfl ?_
        refine ex_aload_n rfl ?_
        refine ex_iload_n rfl ?_
        refine ex_iconst (v := 1) (by decide) ?_
        refine ex_iadd ?_
        obtain ⟨hj, H⟩ := am_ck_el H
        refine ex_iald (k := Lg) (v := xs (x3 + 1).toNatClampNeg) rfl hj rfl ?_
        refine ex_aload_n rfl ?_
        refine ex_iload_n rfl ?_
        refine ex_iconst (v := 2) (by decide) ?_
        refine ex_iadd ?_
        obtain ⟨hj, H⟩ := am_ck_el H
        refine ex_iald (k := Lg) (v := xs (x3 + 2).toNatClampNeg) rfl hj rfl ?_
        obtain ⟨v3, S4, hp, H⟩ := am_b2_el H
        refine ex_callV rfl rfl (Nat.le_of_ble_eq_true rfl) (Nat.le_of_ble_eq_true rfl) rfl (r141 (by omega) hp) rfl ?_
        refine ex_aload_n rfl ?_
        refine ex_aload_n rfl ?_
        refine ex_iload_n rfl ?_
        refine ex_iconst (v := 1) (by decide) ?_
        refine ex_iadd ?_
        obtain ⟨hj, H⟩ := am_ck_el H
        refine ex_iald (k := Lg) (v := xs (x3 + 1).toNatClampNeg) rfl hj rfl ?_
        refine ex_aload_n rfl ?_
        refine ex_iload_n rfl ?_
        refine ex_iconst (v := 2) (by decide) ?_
        refine ex_iadd ?_
        obtain ⟨hj, H⟩ := am_ck_el H
        refine ex_iald (k := Lg) (v := xs (x3 + 2).toNatClampNeg) rfl hj rfl ?_
        obtain ⟨v5, S6, hp, H⟩ := am_b2_el H
        refine ex_callV rfl rfl (Nat.le_of_ble_eq_true rfl) (Nat.le_of_ble_eq_true rfl) rfl (r208 (by omega) hp) rfl ?_
        by_cases h7 : v3 = v5
        · rw [if_pos h7] at H
          refine ex_icmp_eq_j (ct := am_c299_2179) h7 rfl ?_
          exact e299_2179 hd (fun x3 S q H => ih x3 S q H) H
        · rw [if_neg h7] at H
          refine ex_icmp_eq_f h7 ?_
          refine ex_iconst (v := 0) (by decide) ?_
          have H := Option.some.inj H
          subst H
          exact ex_iret (M := 299) (Or.inr ⟨rfl, by decide⟩)
      rw [if_neg h2] at H
      by_cases h8 : ((xs x3.toNatClampNeg) &&& 63) = 1
      · rw [if_pos h8] at H
        refine ex_table (off := 252) (ct := am_c299_285) (by rw [h8]; decide) rfl ?_
        refine ex_aload_n rfl ?_
        refine ex_aload_n rfl ?_
        refine ex_iload_n rfl ?_
        refine ex_iconst (v := 1) (by decide) ?_
        refine ex_iadd ?_
        obtain ⟨hj, H⟩ := am_ck_el H
        refine ex_iald (k := Lg) (v := xs (x3 + 1).toNatClampNeg) rfl hj rfl ?_
        obtain ⟨v9, S10, hp, H⟩ := am_b2_el H
        refine ex_callV rfl rfl (Nat.le_of_ble_eq_true rfl) (Nat.le_of_ble_eq_true rfl) rfl (r142 (by omega) hp) rfl ?_
        refine ex_aload_n rfl ?_
        refine ex_aload_n rfl ?_
        refine ex_iload_n rfl ?_
        refine ex_iconst (v := 1) (by decide) ?_
        refine ex_iadd ?_
        obtain ⟨hj, H⟩ := am_ck_el H
        refine ex_iald (k := Lg) (v := xs (x3 + 1).toNatClampNeg) rfl hj rfl ?_
        obtain ⟨v11, S12, hp, H⟩ := am_b2_el H
        refine ex_callV rfl rfl (Nat.le_of_ble_eq_true rfl) (Nat.le_of_ble_eq_true rfl) rfl (r209 (by omega) hp) rfl ?_
        by_cases h13 : v9 = v11
        · rw [if_pos h13] at H
          refine ex_icmp_eq_j (ct := am_c299_2179) h13 rfl ?_
          exact e299_2179 hd (fun x3 S q H => ih x3 S q H) H
        · rw [if_neg h13] at H
          refine ex_icmp_eq_f h13 ?_
          refine ex_iconst (v := 0) (by decide) ?_
          have H := Option.some.inj H
          subst H
          exact ex_iret (M := 299) (Or.inr ⟨rfl, by decide⟩)
      rw [if_neg h8] at H
      by_cases h14 : ((xs x3.toNatClampNeg) &&& 63) = 2
      · rw [if_pos h14] at H
        refine ex_table (off := 275) (ct := am_c299_308) (by rw [h14]; decide) rfl ?_
        refine ex_aload_n rfl ?_
        refine ex_aload_n rfl ?_
        refine ex_iload_n rfl ?_
        refine ex_iconst (v := 1) (by decide) ?_
        refine ex_iadd ?_
        obtain ⟨hj, H⟩ := am_ck_el H
        refine ex_iald (k := Lg) (v := xs (x3 + 1).toNatClampNeg) rfl hj rfl ?_
        refine ex_aload_n rfl ?_
        refine ex_iload_n rfl ?_
        refine ex_iconst (v := 2) (by decide) ?_
        refine ex_iadd ?_
        obtain ⟨hj, H⟩ := am_ck_el H
        refine ex_iald (k := Lg) (v := xs (x3 + 2).toNatClampNeg) rfl hj rfl ?_
        obtain ⟨v15, S16, hp, H⟩ := am_b2_el H
        refine ex_callV rfl rfl (Nat.le_of_ble_eq_true rfl) (Nat.le_of_ble_eq_true rfl) rfl (r143 (by omega) hp) rfl ?_
        refine ex_aload_n rfl ?_
        refine ex_aload_n rfl ?_
        refine ex_iload_n rfl ?_
        refine ex_iconst (v := 1) (by decide) ?_
        refine ex_iadd ?_
        obtain ⟨hj, H⟩ := am_ck_el H
        refine ex_iald (k := Lg) (v := xs (x3 + 1).toNatClampNeg) rfl hj rfl ?_
        refine ex_aload_n rfl ?_
        refine ex_iload_n rfl ?_
        refine ex_iconst (v := 2) (by decide) ?_
        refine ex_iadd ?_
        obtain ⟨hj, H⟩ := am_ck_el H
        refine ex_iald (k := Lg) (v := xs (x3 + 2).toNatClampNeg) rfl hj rfl ?_
        obtain ⟨v17, S18, hp, H⟩ := am_b2_el H
        refine ex_callV rfl rfl (Nat.le_of_ble_eq_true rfl) (Nat.le_of_ble_eq_true rfl) rfl (r210 (by omega) hp) rfl ?_
        by_cases h19 : v15 = v17
        · rw [if_pos h19] at H
          refine ex_icmp_eq_j (ct := am_c299_2179) h19 rfl ?_
          exact e299_2179 hd (fun x3 S q H => ih x3 S q H) H
        · rw [if_neg h19] at H
          refine ex_icmp_eq_f h19 ?_
          refine ex_iconst (v := 0) (by decide) ?_
          have H := Option.some.inj H
          subst H
          exact ex_iret (M := 299) (Or.inr ⟨rfl, by decide⟩)
      rw [if_neg h14] at H
      by_cases h20 : ((xs x3.toNatClampNeg) &&& 63) = 3
      · rw [if_pos h20] at H
        refine ex_table (off := 308) (ct := am_c299_341) (by rw [h20]; decide) rfl ?_
        refine ex_aload_n rfl ?_
        refine ex_aload_n rfl ?_
        refine ex_iload_n rfl ?_
        refine ex_iconst (v := 1) (by decide) ?_
        refine ex_iadd ?_
        obtain ⟨hj, H⟩ := am_ck_el H
        refine ex_iald (k := Lg) (v := xs (x3 + 1).toNatClampNeg) rfl hj rfl ?_
        refine ex_aload_n rfl ?_
        refine ex_iload_n rfl ?_
        refine ex_iconst (v := 2) (by decide) ?_
        refine ex_iadd ?_
        obtain ⟨hj, H⟩ := am_ck_el H
        refine ex_iald (k := Lg) (v := xs (x3 + 2).toNatClampNeg) rfl hj rfl ?_
        refine ex_aload_n rfl ?_
        refine ex_iload_n rfl ?_
        refine ex_iconst (v := 3) (by decide) ?_
        refine ex_iadd ?_
        obtain ⟨hj, H⟩ := am_ck_el H
        refine ex_iald (k := Lg) (v := xs (x3 + 3).toNatClampNeg) rfl hj rfl ?_
        obtain ⟨v21, S22, hp, H⟩ := am_b2_el H
        refine ex_callV rfl rfl (Nat.le_of_ble_eq_true rfl) (Nat.le_of_ble_eq_true rfl) rfl (r144 (by omega) hp) rfl ?_
        refine ex_aload_n rfl ?_
        refine ex_aload_n rfl ?_
        refine ex_iload_n rfl ?_
        refine ex_iconst (v := 1) (by decide) ?_
        refine ex_iadd ?_
        obtain ⟨hj, H⟩ := am_ck_el H
        refine ex_iald (k := Lg) (v := xs (x3 + 1).toNatClampNeg) rfl hj rfl ?_
        refine ex_aload_n rfl ?_
        refine ex_iload_n rfl ?_
        refine ex_iconst (v := 2) (by decide) ?_
        refine ex_iadd ?_
        obtain ⟨hj, H⟩ := am_ck_el H
        refine ex_iald (k := Lg) (v := xs (x3 + 2).toNatClampNeg) rfl hj rfl ?_
        refine ex_aload_n rfl ?_
        refine ex_iload_n rfl ?_
        refine ex_iconst (v := 3) (by decide) ?_
        refine ex_iadd ?_
        obtain ⟨hj, H⟩ := am_ck_el H
        refine ex_iald (k := Lg) (v := xs (x3 + 3).toNatClampNeg) rfl hj rfl ?_
        obtain ⟨v23, S24, hp, H⟩ := am_b2_el H
        refine ex_callV rfl rfl (Nat.le_of_ble_eq_true rfl) (Nat.le_of_ble_eq_true rfl) rfl (r211 (by omega) hp) rfl ?_
        by_cases h25 : v21 = v23
        · rw [if_pos h25] at H
          refine ex_icmp_eq_j (ct := am_c299_2179) h25 rfl ?_
          exact e299_2179 hd (fun x3 S q H => ih x3 S q H) H
        · rw [if_neg h25] at H
          refine ex_icmp_eq_f h25 ?_
          refine ex_iconst (v := 0) (by decide) ?_
          have H := Option.some.inj H
          subst H
          exact ex_iret (M := 299) (Or.inr ⟨rfl, by decide⟩)
      rw [if_neg h20] at H
      by_cases h26 : ((xs x3.toNatClampNeg) &&& 63) = 4
      · rw [if_pos h26] at H
        refine ex_table (off := 351) (ct := am_c299_384) (by rw [h26]; decide) rfl ?_
        refine ex_aload_n rfl ?_
        refine ex_aload_n rfl ?_
        refine ex_iload_n rfl ?_
        refine ex_iconst (v := 1) (by decide) ?_
        refine ex_iadd ?_
        obtain ⟨hj, H⟩ := am_ck_el H
        refine ex_iald (k := Lg) (v := xs (x3 + 1).toNatClampNeg) rfl hj rfl ?_
        refine ex_aload_n rfl ?_
        refine ex_iload_n rfl ?_
        refine ex_iconst (v := 2) (by decide) ?_
        refine ex_iadd ?_
        obtain ⟨hj, H⟩ := am_ck_el H
        refine ex_iald (k := Lg) (v := xs (x3 + 2).toNatClampNeg) rfl hj rfl ?_
        refine ex_aload_n rfl ?_
        refine ex_iload_n rfl ?_
        refine ex_iconst (v := 3) (by decide) ?_
        refine ex_iadd ?_
        obtain ⟨hj, H⟩ := am_ck_el H
        refine ex_iald (k := Lg) (v := xs (x3 + 3).toNatClampNeg) rfl hj rfl ?_
        refine ex_aload_n rfl ?_
        refine ex_iload_n rfl ?_
        refine ex_iconst (v := 4) (by decide) ?_
        refine ex_iadd ?_
        obtain ⟨hj, H⟩ := am_ck_el H
        refine ex_iald (k := Lg) (v := xs (x3 + 4).toNatClampNeg) rfl hj rfl ?_
        obtain ⟨v27, S28, hp, H⟩ := am_b2_el H
        refine ex_callV rfl rfl (Nat.le_of_ble_eq_true rfl) (Nat.le_of_ble_eq_true rfl) rfl (r145 (by omega) hp) rfl ?_
        refine ex_aload_n rfl ?_
        refine ex_aload_n rfl ?_
        refine ex_iload_n rfl ?_
        refine ex_iconst (v := 1) (by decide) ?_
        refine ex_iadd ?_
        obtain ⟨hj, H⟩ := am_ck_el H
        refine ex_iald (k := Lg) (v := xs (x3 + 1).toNatClampNeg) rfl hj rfl ?_
        refine ex_aload_n rfl ?_
        refine ex_iload_n rfl ?_
        refine ex_iconst (v := 2) (by decide) ?_
        refine ex_iadd ?_
        obtain ⟨hj, H⟩ := am_ck_el H
        refine ex_iald (k := Lg) (v := xs (x3 + 2).toNatClampNeg) rfl hj rfl ?_
        refine ex_aload_n rfl ?_
        refine ex_iload_n rfl ?_
        refine ex_iconst (v := 3) (by decide) ?_
        refine ex_iadd ?_
        obtain ⟨hj, H⟩ := am_ck_el H
        refine ex_iald (k := Lg) (v := xs (x3 + 3).toNatClampNeg) rfl hj rfl ?_
        refine ex_aload_n rfl ?_
        refine ex_iload_n rfl ?_
        refine ex_iconst (v := 4) (by decide) ?_
        refine ex_iadd ?_
        obtain ⟨hj, H⟩ := am_ck_el H
        refine ex_iald (k := Lg) (v := xs (x3 + 4).toNatClampNeg) rfl hj rfl ?_
        obtain ⟨v29, S30, hp, H⟩ := am_b2_el H
        refine ex_callV rfl rfl (Nat.le_of_ble_eq_true rfl) (Nat.le_of_ble_eq_true rfl) rfl (r214 (by omega) hp) rfl ?_
        by_cases h31 : v27 = v29
        · rw [if_pos h31] at H
          refine ex_icmp_eq_j (ct := am_c299_2179) h31 rfl ?_
          exact e299_2179 hd (fun x3 S q H => ih x3 S q H) H
        · rw [if_neg h31] at H
          refine ex_icmp_eq_f h31 ?_
          refine ex_iconst (v := 0) (by decide) ?_
          have H := Option.some.inj H
          subst H
          exact ex_iret (M := 299) (Or.inr ⟨rfl, by decide⟩)
      rw [if_neg h26] at H
      by_cases h32 : ((xs x3.toNatClampNeg) &&& 63) = 5
      · rw [if_pos h32] at H
        refine ex_table (off := 404) (ct := am_c299_437) (by rw [h32]; decide) rfl ?_
        refine ex_aload_n rfl ?_
        refine ex_aload_n rfl ?_
        refine ex_iload_n rfl ?_
        refine ex_iconst (v := 1) (by decide) ?_
        refine ex_iadd ?_
        obtain ⟨hj, H⟩ := am_ck_el H
        refine ex_iald (k := Lg) (v := xs (x3 + 1).toNatClampNeg) rfl hj rfl ?_
        refine ex_aload_n rfl ?_
        refine ex_iload_n rfl ?_
        refine ex_iconst (v := 2) (by decide) ?_
        refine ex_iadd ?_
        obtain ⟨hj, H⟩ := am_ck_el H
        refine ex_iald (k := Lg) (v := xs (x3 + 2).toNatClampNeg) rfl hj rfl ?_
        refine ex_aload_n rfl ?_
        refine ex_iload_n rfl ?_
        refine ex_iconst (v := 3) (by decide) ?_
        refine ex_iadd ?_
        obtain ⟨hj, H⟩ := am_ck_el H
        refine ex_iald (k := Lg) (v := xs (x3 + 3).toNatClampNeg) rfl hj rfl ?_
        obtain ⟨v33, S34, hp, H⟩ := am_b2_el H
        refine ex_callV rfl rfl (Nat.le_of_ble_eq_true rfl) (Nat.le_of_ble_eq_true rfl) rfl (r146 (by omega) hp) rfl ?_
        refine ex_aload_n rfl ?_
        refine ex_aload_n rfl ?_
        refine ex_iload_n rfl ?_
        refine ex_iconst (v := 1) (by decide) ?_
        refine ex_iadd ?_
        obtain ⟨hj, H⟩ := am_ck_el H
        refine ex_iald (k := Lg) (v := xs (x3 + 1).toNatClampNeg) rfl hj rfl ?_
        refine ex_aload_n rfl ?_
        refine ex_iload_n rfl ?_
        refine ex_iconst (v := 2) (by decide) ?_
        refine ex_iadd ?_
        obtain ⟨hj, H⟩ := am_ck_el H
        refine ex_iald (k := Lg) (v := xs (x3 + 2).toNatClampNeg) rfl hj rfl ?_
        refine ex_aload_n rfl ?_
        refine ex_iload_n rfl ?_
        refine ex_iconst (v := 3) (by decide) ?_
        refine ex_iadd ?_
        obtain ⟨hj, H⟩ := am_ck_el H
        refine ex_iald (k := Lg) (v := xs (x3 + 3).toNatClampNeg) rfl hj rfl ?_
        obtain ⟨v35, S36, hp, H⟩ := am_b2_el H
        refine ex_callV rfl rfl (Nat.le_of_ble_eq_true rfl) (Nat.le_of_ble_eq_true rfl) rfl (r215 (by omega) hp) rfl ?_
        by_cases h37 : v33 = v35
        · rw [if_pos h37] at H
          refine ex_icmp_eq_j (ct := am_c299_2179) h37 rfl ?_
          exact e299_2179 hd (fun x3 S q H => ih x3 S q H) H
        · rw [if_neg h37] at H
          refine ex_icmp_eq_f h37 ?_
          refine ex_iconst (v := 0) (by decide) ?_
          have H := Option.some.inj H
          subst H
          exact ex_iret (M := 299) (Or.inr ⟨rfl, by decide⟩)
      rw [if_neg h32] at H
      by_cases h38 : ((xs x3.toNatClampNeg) &&& 63) = 6
      · rw [if_pos h38] at H
        refine ex_table (off := 447) (ct := am_c299_480) (by rw [h38]; decide) rfl ?_
        refine ex_aload_n rfl ?_
        refine ex_aload_n rfl ?_
        refine ex_iload_n rfl ?_
        refine ex_iconst (v := 1) (by decide) ?_
        refine ex_iadd ?_
        obtain ⟨hj, H⟩ := am_ck_el H
        refine ex_iald (k := Lg) (v := xs (x3 + 1).toNatClampNeg) rfl hj rfl ?_
        refine ex_aload_n rfl ?_
        refine ex_iload_n rfl ?_
        refine ex_iconst (v := 2) (by decide) ?_
        refine ex_iadd ?_
        obtain ⟨hj, H⟩ := am_ck_el H
        refine ex_iald (k := Lg) (v := xs (x3 + 2).toNatClampNeg) rfl hj rfl ?_
        refine ex_aload_n rfl ?_
        refine ex_iload_n rfl ?_
        refine ex_iconst (v := 3) (by decide) ?_
        refine ex_iadd ?_
        obtain ⟨hj, H⟩ := am_ck_el H
        refine ex_iald (k := Lg) (v := xs (x3 + 3).toNatClampNeg) rfl hj rfl ?_
        refine ex_aload_n rfl ?_
        refine ex_iload_n rfl ?_
        refine ex_iconst (v := 4) (by decide) ?_
        refine ex_iadd ?_
        obtain ⟨hj, H⟩ := am_ck_el H
        refine ex_iald (k := Lg) (v := xs (x3 + 4).toNatClampNeg) rfl hj rfl ?_
        refine ex_aload_n rfl ?_
        refine ex_iload_n rfl ?_
        refine ex_iconst (v := 5) (by decide) ?_
        refine ex_iadd ?_
        obtain ⟨hj, H⟩ := am_ck_el H
        refine ex_iald (k := Lg) (v := xs (x3 + 5).toNatClampNeg) rfl hj rfl ?_
        obtain ⟨v39, S40, hp, H⟩ := am_b2_el H
        refine ex_callV rfl rfl (Nat.le_of_ble_eq_true rfl) (Nat.le_of_ble_eq_true rfl) rfl (r147 (by omega) hp) rfl ?_
        refine ex_aload_n rfl ?_
        refine ex_aload_n rfl ?_
        refine ex_iload_n rfl ?_
        refine ex_iconst (v := 1) (by decide) ?_
        refine ex_iadd ?_
        obtain ⟨hj, H⟩ := am_ck_el H
        refine ex_iald (k := Lg) (v := xs (x3 + 1).toNatClampNeg) rfl hj rfl ?_
        refine ex_aload_n rfl ?_
        refine ex_iload_n rfl ?_
        refine ex_iconst (v := 2) (by decide) ?_
        refine ex_iadd ?_
        obtain ⟨hj, H⟩ := am_ck_el H
        refine ex_iald (k := Lg) (v := xs (x3 + 2).toNatClampNeg) rfl hj rfl ?_
        refine ex_aload_n rfl ?_
        refine ex_iload_n rfl ?_
        refine ex_iconst (v := 3) (by decide) ?_
        refine ex_iadd ?_
        obtain ⟨hj, H⟩ := am_ck_el H
        refine ex_iald (k := Lg) (v := xs (x3 + 3).toNatClampNeg) rfl hj rfl ?_
        refine ex_aload_n rfl ?_
        refine ex_iload_n rfl ?_
        refine ex_iconst (v := 4) (by decide) ?_
        refine ex_iadd ?_
        obtain ⟨hj, H⟩ := am_ck_el H
        refine ex_iald (k := Lg) (v := xs (x3 + 4).toNatClampNeg) rfl hj rfl ?_
        refine ex_aload_n rfl ?_
        refine ex_iload_n rfl ?_
        refine ex_iconst (v := 5) (by decide) ?_
        refine ex_iadd ?_
        obtain ⟨hj, H⟩ := am_ck_el H
        refine ex_iald (k := Lg) (v := xs (x3 + 5).toNatClampNeg) rfl hj rfl ?_
        obtain ⟨v41, S42, hp, H⟩ := am_b2_el H
        refine ex_callV rfl rfl (Nat.le_of_ble_eq_true rfl) (Nat.le_of_ble_eq_true rfl) rfl (r216 (by omega) hp) rfl ?_
        by_cases h43 : v39 = v41
        · rw [if_pos h43] at H
          refine ex_icmp_eq_j (ct := am_c299_2179) h43 rfl ?_
          exact e299_2179 hd (fun x3 S q H => ih x3 S q H) H
        · rw [if_neg h43] at H
          refine ex_icmp_eq_f h43 ?_
          refine ex_iconst (v := 0) (by decide) ?_
          have H := Option.some.inj H
          subst H
          exact ex_iret (M := 299) (Or.inr ⟨rfl, by decide⟩)
      rw [if_neg h38] at H
      by_cases h44 : ((xs x3.toNatClampNeg) &&& 63) = 7
      · rw [if_pos h44] at H
        refine ex_table (off := 510) (ct := am_c299_543) (by rw [h44]; decide) rfl ?_
        refine ex_aload_n rfl ?_
        refine ex_aload_n rfl ?_
        refine ex_iload_n rfl ?_
        refine ex_iconst (v := 1) (by decide) ?_
        refine ex_iadd ?_
        obtain ⟨hj, H⟩ := am_ck_el H
        refine ex_iald (k := Lg) (v := xs (x3 + 1).toNatClampNeg) rfl hj rfl ?_
        refine ex_aload_n rfl ?_
        refine ex_iload_n rfl ?_
        refine ex_iconst (v := 2) (by decide) ?_
        refine ex_iadd ?_
        obtain ⟨hj, H⟩ := am_ck_el H
        refine ex_iald (k := Lg) (v := xs (x3 + 2).toNatClampNeg) rfl hj rfl ?_
        refine ex_aload_n rfl ?_
        refine ex_iload_n rfl ?_
        refine ex_iconst (v := 3) (by decide) ?_
        refine ex_iadd ?_
        obtain ⟨hj, H⟩ := am_ck_el H
        refine ex_iald (k := Lg) (v := xs (x3 + 3).toNatClampNeg) rfl hj rfl ?_
        refine ex_aload_n rfl ?_
        refine ex_iload_n rfl ?_
        refine ex_iconst (v := 4) (by decide) ?_
        refine ex_iadd ?_
        obtain ⟨hj, H⟩ := am_ck_el H
        refine ex_iald (k := Lg) (v := xs (x3 + 4).toNatClampNeg) rfl hj rfl ?_
        obtain ⟨v45, S46, hp, H⟩ := am_b2_el H
        refine ex_callV rfl rfl (Nat.le_of_ble_eq_true rfl) (Nat.le_of_ble_eq_true rfl) rfl (r148 (by omega) hp) rfl ?_
        refine ex_aload_n rfl ?_
        refine ex_aload_n rfl ?_
        refine ex_iload_n rfl ?_
        refine ex_iconst (v := 1) (by decide) ?_
        refine ex_iadd ?_
        obtain ⟨hj, H⟩ := am_ck_el H
        refine ex_iald (k := Lg) (v := xs (x3 + 1).toNatClampNeg) rfl hj rfl ?_
        refine ex_aload_n rfl ?_
        refine ex_iload_n rfl ?_
        refine ex_iconst (v := 2) (by decide) ?_
        refine ex_iadd ?_
        obtain ⟨hj, H⟩ := am_ck_el H
        refine ex_iald (k := Lg) (v := xs (x3 + 2).toNatClampNeg) rfl hj rfl ?_
        refine ex_aload_n rfl ?_
        refine ex_iload_n rfl ?_
        refine ex_iconst (v := 3) (by decide) ?_
        refine ex_iadd ?_
        obtain ⟨hj, H⟩ := am_ck_el H
        refine ex_iald (k := Lg) (v := xs (x3 + 3).toNatClampNeg) rfl hj rfl ?_
        refine ex_aload_n rfl ?_
        refine ex_iload_n rfl ?_
        refine ex_iconst (v := 4) (by decide) ?_
        refine ex_iadd ?_
        obtain ⟨hj, H⟩ := am_ck_el H
        refine ex_iald (k := Lg) (v := xs (x3 + 4).toNatClampNeg) rfl hj rfl ?_
        obtain ⟨v47, S48, hp, H⟩ := am_b2_el H
        refine ex_callV rfl rfl (Nat.le_of_ble_eq_true rfl) (Nat.le_of_ble_eq_true rfl) rfl (r217 (by omega) hp) rfl ?_
        by_cases h49 : v45 = v47
        · rw [if_pos h49] at H
          refine ex_icmp_eq_j (ct := am_c299_2179) h49 rfl ?_
          exact e299_2179 hd (fun x3 S q H => ih x3 S q H) H
        · rw [if_neg h49] at H
          refine ex_icmp_eq_f h49 ?_
          refine ex_iconst (v := 0) (by decide) ?_
          have H := Option.some.inj H
          subst H
          exact ex_iret (M := 299) (Or.inr ⟨rfl, by decide⟩)
      rw [if_neg h44] at H
      by_cases h50 : ((xs x3.toNatClampNeg) &&& 63) = 8
      · rw [if_pos h50] at H
        refine ex_table (off := 563) (ct := am_c299_596) (by rw [h50]; decide) rfl ?_
        refine ex_aload_n rfl ?_
        refine ex_aload_n rfl ?_
        refine ex_iload_n rfl ?_
        refine ex_iconst (v := 1) (by decide) ?_
        refine ex_iadd ?_
        obtain ⟨hj, H⟩ := am_ck_el H
        refine ex_iald (k := Lg) (v := xs (x3 + 1).toNatClampNeg) rfl hj rfl ?_
        refine ex_aload_n rfl ?_
        refine ex_iload_n rfl ?_
        refine ex_iconst (v := 2) (by decide) ?_
        refine ex_iadd ?_
        obtain ⟨hj, H⟩ := am_ck_el H
        refine ex_iald (k := Lg) (v := xs (x3 + 2).toNatClampNeg) rfl hj rfl ?_
        refine ex_aload_n rfl ?_
        refine ex_iload_n rfl ?_
        refine ex_iconst (v := 3) (by decide) ?_
        refine ex_iadd ?_
        obtain ⟨hj, H⟩ := am_ck_el H
        refine ex_iald (k := Lg) (v := xs (x3 + 3).toNatClampNeg) rfl hj rfl ?_
        obtain ⟨v51, S52, hp, H⟩ := am_b2_el H
        refine ex_callV rfl rfl (Nat.le_of_ble_eq_true rfl) (Nat.le_of_ble_eq_true rfl) rfl (r149 (by omega) hp) rfl ?_
        refine ex_aload_n rfl ?_
        refine ex_aload_n rfl ?_
        refine ex_iload_n rfl ?_
        refine ex_iconst (v := 1) (by decide) ?_
        refine ex_iadd ?_
        obtain ⟨hj, H⟩ := am_ck_el H
        refine ex_iald (k := Lg) (v := xs (x3 + 1).toNatClampNeg) rfl hj rfl ?_
        refine ex_aload_n rfl ?_
        refine ex_iload_n rfl ?_
        refine ex_iconst (v := 2) (by decide) ?_
        refine ex_iadd ?_
        obtain ⟨hj, H⟩ := am_ck_el H
        refine ex_iald (k := Lg) (v := xs (x3 + 2).toNatClampNeg) rfl hj rfl ?_
        refine ex_aload_n rfl ?_
        refine ex_iload_n rfl ?_
        refine ex_iconst (v := 3) (by decide) ?_
        refine ex_iadd ?_
        obtain ⟨hj, H⟩ := am_ck_el H
        refine ex_iald (k := Lg) (v := xs (x3 + 3).toNatClampNeg) rfl hj rfl ?_
        obtain ⟨v53, S54, hp, H⟩ := am_b2_el H
        refine ex_callV rfl rfl (Nat.le_of_ble_eq_true rfl) (Nat.le_of_ble_eq_true rfl) rfl (r218 (by omega) hp) rfl ?_
        by_cases h55 : v51 = v53
        · rw [if_pos h55] at H
          refine ex_icmp_eq_j (ct := am_c299_2179) h55 rfl ?_
          exact e299_2179 hd (fun x3 S q H => ih x3 S q H) H
        · rw [if_neg h55] at H
          refine ex_icmp_eq_f h55 ?_
          refine ex_iconst (v := 0) (by decide) ?_
          have H := Option.some.inj H
          subst H
          exact ex_iret (M := 299) (Or.inr ⟨rfl, by decide⟩)
      rw [if_neg h50] at H
      by_cases h56 : ((xs x3.toNatClampNeg) &&& 63) = 9
      · rw [if_pos h56] at H
        refine ex_table (off := 606) (ct := am_c299_639) (by rw [h56]; decide) rfl ?_
        refine ex_aload_n rfl ?_
        refine ex_aload_n rfl ?_
        refine ex_iload_n rfl ?_
        refine ex_iconst (v := 1) (by decide) ?_
        refine ex_iadd ?_
        obtain ⟨hj, H⟩ := am_ck_el H
        refine ex_iald (k := Lg) (v := xs (x3 + 1).toNatClampNeg) rfl hj rfl ?_
        refine ex_aload_n rfl ?_
        refine ex_iload_n rfl ?_
        refine ex_iconst (v := 2) (by decide) ?_
        refine ex_iadd ?_
        obtain ⟨hj, H⟩ := am_ck_el H
        refine ex_iald (k := Lg) (v := xs (x3 + 2).toNatClampNeg) rfl hj rfl ?_
        refine ex_aload_n rfl ?_
        refine ex_iload_n rfl ?_
        refine ex_iconst (v := 3) (by decide) ?_
        refine ex_iadd ?_
        obtain ⟨hj, H⟩ := am_ck_el H
        refine ex_iald (k := Lg) (v := xs (x3 + 3).toNatClampNeg) rfl hj rfl ?_
        refine ex_aload_n rfl ?_
        refine ex_iload_n rfl ?_
        refine ex_iconst (v := 4) (by decide) ?_
        refine ex_iadd ?_
        obtain ⟨hj, H⟩ := am_ck_el H
        refine ex_iald (k := Lg) (v := xs (x3 + 4).toNatClampNeg) rfl hj rfl ?_
        refine ex_aload_n rfl ?_
        refine ex_iload_n rfl ?_
        refine ex_iconst (v := 5) (by decide) ?_
        refine ex_iadd ?_
        obtain ⟨hj, H⟩ := am_ck_el H
        refine ex_iald (k := Lg) (v := xs (x3 + 5).toNatClampNeg) rfl hj rfl ?_
        refine ex_aload_n rfl ?_
        refine ex_iload_n rfl ?_
        refine ex_bipush (v := 6) (by decide) ?_
        refine ex_iadd ?_
        obtain ⟨hj, H⟩ := am_ck_el H
        refine ex_iald (k := Lg) (v := xs (x3 + 6).toNatClampNeg) rfl hj rfl ?_
        refine ex_aload_n rfl ?_
        refine ex_iload_n rfl ?_
        refine ex_bipush (v := 7) (by decide) ?_
        refine ex_iadd ?_
        obtain ⟨hj, H⟩ := am_ck_el H
        refine ex_iald (k := Lg) (v := xs (x3 + 7).toNatClampNeg) rfl hj rfl ?_
        obtain ⟨v57, S58, hp, H⟩ := am_b2_el H
        refine ex_callV rfl rfl (Nat.le_of_ble_eq_true rfl) (Nat.le_of_ble_eq_true rfl) rfl (r150 (by omega) hp) rfl ?_
        refine ex_aload_n rfl ?_
        refine ex_aload_n rfl ?_
        refine ex_iload_n rfl ?_
        refine ex_iconst (v := 1) (by decide) ?_
        refine ex_iadd ?_
        obtain ⟨hj, H⟩ := am_ck_el H
        refine ex_iald (k := Lg) (v := xs (x3 + 1).toNatClampNeg) rfl hj rfl ?_
        refine ex_aload_n rfl ?_
        refine ex_iload_n rfl ?_
        refine ex_iconst (v := 2) (by decide) ?_
        refine ex_iadd ?_
        obtain ⟨hj, H⟩ := am_ck_el H
        refine ex_iald (k := Lg) (v := xs (x3 + 2).toNatClampNeg) rfl hj rfl ?_
        refine ex_aload_n rfl ?_
        refine ex_iload_n rfl ?_
        refine ex_iconst (v := 3) (by decide) ?_
        refine ex_iadd ?_
        obtain ⟨hj, H⟩ := am_ck_el H
        refine ex_iald (k := Lg) (v := xs (x3 + 3).toNatClampNeg) rfl hj rfl ?_
        refine ex_aload_n rfl ?_
        refine ex_iload_n rfl ?_
        refine ex_iconst (v := 4) (by decide) ?_
        refine ex_iadd ?_
        obtain ⟨hj, H⟩ := am_ck_el H
        refine ex_iald (k := Lg) (v := xs (x3 + 4).toNatClampNeg) rfl hj rfl ?_
        refine ex_aload_n rfl ?_
        refine ex_iload_n rfl ?_
        refine ex_iconst (v := 5) (by decide) ?_
        refine ex_iadd ?_
        obtain ⟨hj, H⟩ := am_ck_el H
        refine ex_iald (k := Lg) (v := xs (x3 + 5).toNatClampNeg) rfl hj rfl ?_
        refine ex_aload_n rfl ?_
        refine ex_iload_n rfl ?_
        refine ex_bipush (v := 6) (by decide) ?_
        refine ex_iadd ?_
        obtain ⟨hj, H⟩ := am_ck_el H
        refine ex_iald (k := Lg) (v := xs (x3 + 6).toNatClampNeg) rfl hj rfl ?_
        refine ex_aload_n rfl ?_
        refine ex_iload_n rfl ?_
        refine ex_bipush (v := 7) (by decide) ?_
        refine ex_iadd ?_
        obtain ⟨hj, H⟩ := am_ck_el H
        refine ex_iald (k := Lg) (v := xs (x3 + 7).toNatClampNeg) rfl hj rfl ?_
        obtain ⟨v59, S60, hp, H⟩ := am_b2_el H
        refine ex_callV rfl rfl (Nat.le_of_ble_eq_true rfl) (Nat.le_of_ble_eq_true rfl) rfl (r220 (by omega) hp) rfl ?_
        by_cases h61 : v57 = v59
        · rw [if_pos h61] at H
          refine ex_icmp_eq_j (ct := am_c299_2179) h61 rfl ?_
          exact e299_2179 hd (fun x3 S q H => ih x3 S q H) H
        · rw [if_neg h61] at H
          refine ex_icmp_eq_f h61 ?_
          refine ex_iconst (v := 0) (by decide) ?_
          have H := Option.some.inj H
          subst H
          exact ex_iret (M := 299) (Or.inr ⟨rfl, by decide⟩)
      rw [if_neg h56] at H
      by_cases h62 : ((xs x3.toNatClampNeg) &&& 63) = 10
      · rw [if_pos h62] at H
        refine ex_table (off := 693) (ct := am_c299_726) (by rw [h62]; decide) rfl ?_
        refine ex_aload_n rfl ?_
        obtain ⟨v63, S64, hp, H⟩ := am_b2_el H
        refine ex_callV rfl rfl (Nat.le_of_ble_eq_true rfl) (Nat.le_of_ble_eq_true rfl) rfl (r151 (by omega) hp) rfl ?_
        refine ex_aload_n rfl ?_
        obtain ⟨v65, S66, hp, H⟩ := am_b2_el H
        refine ex_callV rfl rfl (Nat.le_of_ble_eq_true rfl) (Nat.le_of_ble_eq_true rfl) rfl (r221 (by omega) hp) rfl ?_
        by_cases h67 : v63 = v65
        · rw [if_pos h67] at H
          refine ex_icmp_eq_j (ct := am_c299_2179) h67 rfl ?_
          exact e299_2179 hd (fun x3 S q H => ih x3 S q H) H
        · rw [if_neg h67] at H
          refine ex_icmp_eq_f h67 ?_
          refine ex_iconst (v := 0) (by decide) ?_
          have H := Option.some.inj H
          subst H
          exact ex_iret (M := 299) (Or.inr ⟨rfl, by decide⟩)
      rw [if_neg h62] at H
      by_cases h68 : ((xs x3.toNatClampNeg) &&& 63) = 11
      · rw [if_pos h68] at H
        refine ex_table (off := 706) (ct := am_c299_739) (by rw [h68]; decide) rfl ?_
        refine ex_aload_n rfl ?_
        refine ex_aload_n rfl ?_
        refine ex_iload_n rfl ?_
        refine ex_iconst (v := 1) (by decide) ?_
        refine ex_iadd ?_
        obtain ⟨hj, H⟩ := am_ck_el H
        refine ex_iald (k := Lg) (v := xs (x3 + 1).toNatClampNeg) rfl hj rfl ?_
        refine ex_aload_n rfl ?_
        refine ex_iload_n rfl ?_
        refine ex_iconst (v := 2) (by decide) ?_
        refine ex_iadd ?_
        obtain ⟨hj, H⟩ := am_ck_el H
        refine ex_iald (k := Lg) (v := xs (x3 + 2).toNatClampNeg) rfl hj rfl ?_
        refine ex_aload_n rfl ?_
        refine ex_iload_n rfl ?_
        refine ex_iconst (v := 3) (by decide) ?_
        refine ex_iadd ?_
        obtain ⟨hj, H⟩ := am_ck_el H
        refine ex_iald (k := Lg) (v := xs (x3 + 3).toNatClampNeg) rfl hj rfl ?_
        obtain ⟨v69, S70, hp, H⟩ := am_b2_el H
        refine ex_callV rfl rfl (Nat.le_of_ble_eq_true rfl) (Nat.le_of_ble_eq_true rfl) rfl (r152 (by omega) hp) rfl ?_
        refine ex_aload_n rfl ?_
        refine ex_aload_n rfl ?_
        refine ex_iload_n rfl ?_
        refine ex_iconst (v := 1) (by decide) ?_
        refine ex_iadd ?_
        obtain ⟨hj, H⟩ := am_ck_el H
        refine ex_iald (k := Lg) (v := xs (x3 + 1).toNatClampNeg) rfl hj rfl ?_
        refine ex_aload_n rfl ?_
        refine ex_iload_n rfl ?_
        refine ex_iconst (v := 2) (by decide) ?_
        refine ex_iadd ?_
        obtain ⟨hj, H⟩ := am_ck_el H
        refine ex_iald (k := Lg) (v := xs (x3 + 2).toNatClampNeg) rfl hj rfl ?_
        refine ex_aload_n rfl ?_
        refine ex_iload_n rfl ?_
        refine ex_iconst (v := 3) (by decide) ?_
        refine ex_iadd ?_
        obtain ⟨hj, H⟩ := am_ck_el H
        refine ex_iald (k := Lg) (v := xs (x3 + 3).toNatClampNeg) rfl hj rfl ?_
        obtain ⟨v71, S72, hp, H⟩ := am_b2_el H
        refine ex_callV rfl rfl (Nat.le_of_ble_eq_true rfl) (Nat.le_of_ble_eq_true rfl) rfl (r222 (by omega) hp) rfl ?_
        by_cases h73 : v69 = v71
        · rw [if_pos h73] at H
          refine ex_icmp_eq_j (ct := am_c299_2179) h73 rfl ?_
          exact e299_2179 hd (fun x3 S q H => ih x3 S q H) H
        · rw [if_neg h73] at H
          refine ex_icmp_eq_f h73 ?_
          refine ex_iconst (v := 0) (by decide) ?_
          have H := Option.some.inj H
          subst H
          exact ex_iret (M := 299) (Or.inr ⟨rfl, by decide⟩)
      rw [if_neg h68] at H
      by_cases h74 : ((xs x3.toNatClampNeg) &&& 63) = 12
      · rw [if_pos h74] at H
        refine ex_table (off := 749) (ct := am_c299_782) (by rw [h74]; decide) rfl ?_
        refine ex_aload_n rfl ?_
        refine ex_aload_n rfl ?_
        refine ex_iload_n rfl ?_
        refine ex_iconst (v := 1) (by decide) ?_
        refine ex_iadd ?_
        obtain ⟨hj, H⟩ := am_ck_el H
        refine ex_iald (k := Lg) (v := xs (x3 + 1).toNatClampNeg) rfl hj rfl ?_
        refine ex_aload_n rfl ?_
        refine ex_iload_n rfl ?_
        refine ex_iconst (v := 2) (by decide) ?_
        refine ex_iadd ?_
        obtain ⟨hj, H⟩ := am_ck_el H
        refine ex_iald (k := Lg) (v := xs (x3 + 2).toNatClampNeg) rfl hj rfl ?_
        obtain ⟨v75, S76, hp, H⟩ := am_b2_el H
        refine ex_callV rfl rfl (Nat.le_of_ble_eq_true rfl) (Nat.le_of_ble_eq_true rfl) rfl (r153 (by omega) hp) rfl ?_
        refine ex_aload_n rfl ?_
        refine ex_aload_n rfl ?_
        refine ex_iload_n rfl ?_
        refine ex_iconst (v := 1) (by decide) ?_
        refine ex_iadd ?_
        obtain ⟨hj, H⟩ := am_ck_el H
        refine ex_iald (k := Lg) (v := xs (x3 + 1).toNatClampNeg) rfl hj rfl ?_
        refine ex_aload_n rfl ?_
        refine ex_iload_n rfl ?_
        refine ex_iconst (v := 2) (by decide) ?_
        refine ex_iadd ?_
        obtain ⟨hj, H⟩ := am_ck_el H
        refine ex_iald (k := Lg) (v := xs (x3 + 2).toNatClampNeg) rfl hj rfl ?_
        obtain ⟨v77, S78, hp, H⟩ := am_b2_el H
        refine ex_callV rfl rfl (Nat.le_of_ble_eq_true rfl) (Nat.le_of_ble_eq_true rfl) rfl (r223 (by omega) hp) rfl ?_
        by_cases h79 : v75 = v77
        · rw [if_pos h79] at H
          refine ex_icmp_eq_j (ct := am_c299_2179) h79 rfl ?_
          exact e299_2179 hd (fun x3 S q H => ih x3 S q H) H
        · rw [if_neg h79] at H
          refine ex_icmp_eq_f h79 ?_
          refine ex_iconst (v := 0) (by decide) ?_
          have H := Option.some.inj H
          subst H
          exact ex_iret (M := 299) (Or.inr ⟨rfl, by decide⟩)
      rw [if_neg h74] at H
      by_cases h80 : ((xs x3.toNatClampNeg) &&& 63) = 13
      · rw [if_pos h80] at H
        refine ex_table (off := 782) (ct := am_c299_815) (by rw [h80]; decide) rfl ?_
        refine ex_aload_n rfl ?_
        refine ex_aload_n rfl ?_
        refine ex_iload_n rfl ?_
        refine ex_iconst (v := 1) (by decide) ?_
        refine ex_iadd ?_
        obtain ⟨hj, H⟩ := am_ck_el H
        refine ex_iald (k := Lg) (v := xs (x3 + 1).toNatClampNeg) rfl hj rfl ?_
        refine ex_aload_n rfl ?_
        refine ex_iload_n rfl ?_
        refine ex_iconst (v := 2) (by decide) ?_
        refine ex_iadd ?_
        obtain ⟨hj, H⟩ := am_ck_el H
        refine ex_iald (k := Lg) (v := xs (x3 + 2).toNatClampNeg) rfl hj rfl ?_
        obtain ⟨v81, S82, hp, H⟩ := am_b2_el H
        refine ex_callV rfl rfl (Nat.le_of_ble_eq_true rfl) (Nat.le_of_ble_eq_true rfl) rfl (r154 (by omega) hp) rfl ?_
        refine ex_aload_n rfl ?_
        refine ex_aload_n rfl ?_
        refine ex_iload_n rfl ?_
        refine ex_iconst (v := 1) (by decide) ?_
        refine ex_iadd ?_
        obtain ⟨hj, H⟩ := am_ck_el H
        refine ex_iald (k := Lg) (v := xs (x3 + 1).toNatClampNeg) rfl hj rfl ?_
        refine ex_aload_n rfl ?_
        refine ex_iload_n rfl ?_
        refine ex_iconst (v := 2) (by decide) ?_
        refine ex_iadd ?_
        obtain ⟨hj, H⟩ := am_ck_el H
        refine ex_iald (k := Lg) (v := xs (x3 + 2).toNatClampNeg) rfl hj rfl ?_
        obtain ⟨v83, S84, hp, H⟩ := am_b2_el H
        refine ex_callV rfl rfl (Nat.le_of_ble_eq_true rfl) (Nat.le_of_ble_eq_true rfl) rfl (r226 (by omega) hp) rfl ?_
        by_cases h85 : v81 = v83
        · rw [if_pos h85] at H
          refine ex_icmp_eq_j (ct := am_c299_2179) h85 rfl ?_
          exact e299_2179 hd (fun x3 S q H => ih x3 S q H) H
        · rw [if_neg h85] at H
          refine ex_icmp_eq_f h85 ?_
          refine ex_iconst (v := 0) (by decide) ?_
          have H := Option.some.inj H
          subst H
          exact ex_iret (M := 299) (Or.inr ⟨rfl, by decide⟩)
      rw [if_neg h80] at H
      by_cases h86 : ((xs x3.toNatClampNeg) &&& 63) = 14
      · rw [if_pos h86] at H
        refine ex_table (off := 815) (ct := am_c299_848) (by rw [h86]; decide) rfl ?_
        refine ex_aload_n rfl ?_
        refine ex_aload_n rfl ?_
        refine ex_iload_n rfl ?_
        refine ex_iconst (v := 1) (by decide) ?_
        refine ex_iadd ?_
        obtain ⟨hj, H⟩ := am_ck_el H
        refine ex_iald (k := Lg) (v := xs (x3 + 1).toNatClampNeg) rfl hj rfl ?_
        refine ex_aload_n rfl ?_
        refine ex_iload_n rfl ?_
        refine ex_iconst (v := 2) (by decide) ?_
        refine ex_iadd ?_
        obtain ⟨hj, H⟩ := am_ck_el H
        refine ex_iald (k := Lg) (v := xs (x3 + 2).toNatClampNeg) rfl hj rfl ?_
        obtain ⟨v87, S88, hp, H⟩ := am_b2_el H
        refine ex_callV rfl rfl (Nat.le_of_ble_eq_true rfl) (Nat.le_of_ble_eq_true rfl) rfl (r155 (by omega) hp) rfl ?_
        refine ex_aload_n rfl ?_
        refine ex_aload_n rfl ?_
        refine ex_iload_n rfl ?_
        refine ex_iconst (v := 1) (by decide) ?_
        refine ex_iadd ?_
        obtain ⟨hj, H⟩ := am_ck_el H
        refine ex_iald (k := Lg) (v := xs (x3 + 1).toNatClampNeg) rfl hj rfl ?_
        refine ex_aload_n rfl ?_
        refine ex_iload_n rfl ?_
        refine ex_iconst (v := 2) (by decide) ?_
        refine ex_iadd ?_
        obtain ⟨hj, H⟩ := am_ck_el H
        refine ex_iald (k := Lg) (v := xs (x3 + 2).toNatClampNeg) rfl hj rfl ?_
        obtain ⟨v89, S90, hp, H⟩ := am_b2_el H
        refine ex_callV rfl rfl (Nat.le_of_ble_eq_true rfl) (Nat.le_of_ble_eq_true rfl) rfl (r227 (by omega) hp) rfl ?_
        by_cases h91 : v87 = v89
        · rw [if_pos h91] at H
          refine ex_icmp_eq_j (ct := am_c299_2179) h91 rfl ?_
          exact e299_2179 hd (fun x3 S q H => ih x3 S q H) H
        · rw [if_neg h91] at H
          refine ex_icmp_eq_f h91 ?_
          refine ex_iconst (v := 0) (by decide) ?_
          have H := Option.some.inj H
          subst H
          exact ex_iret (M := 299) (Or.inr ⟨rfl, by decide⟩)
      rw [if_neg h86] at H
      by_cases h92 : ((xs x3.toNatClampNeg) &&& 63) = 15
      · rw [if_pos h92] at H
        refine ex_table (off := 848) (ct := am_c299_881) (by rw [h92]; decide) rfl ?_
        refine ex_aload_n rfl ?_
        refine ex_aload_n rfl ?_
        refine ex_iload_n rfl ?_
        refine ex_iconst (v := 1) (by decide) ?_
        refine ex_iadd ?_
        obtain ⟨hj, H⟩ := am_ck_el H
        refine ex_iald (k := Lg) (v := xs (x3 + 1).toNatClampNeg) rfl hj rfl ?_
        obtain ⟨v93, S94, hp, H⟩ := am_b2_el H
        refine ex_callV rfl rfl (Nat.le_of_ble_eq_true rfl) (Nat.le_of_ble_eq_true rfl) rfl (r156 (by omega) hp) rfl ?_
        refine ex_aload_n rfl ?_
        refine ex_aload_n rfl ?_
        refine ex_iload_n rfl ?_
        refine ex_iconst (v := 1) (by decide) ?_
        refine ex_iadd ?_
        obtain ⟨hj, H⟩ := am_ck_el H
        refine ex_iald (k := Lg) (v := xs (x3 + 1).toNatClampNeg) rfl hj rfl ?_
        obtain ⟨v95, S96, hp, H⟩ := am_b2_el H
        refine ex_callV rfl rfl (Nat.le_of_ble_eq_true rfl) (Nat.le_of_ble_eq_true rfl) rfl (r228 (by omega) hp) rfl ?_
        by_cases h97 : v93 = v95
        · rw [if_pos h97] at H
          refine ex_icmp_eq_j (ct := am_c299_2179) h97 rfl ?_
          exact e299_2179 hd (fun x3 S q H => ih x3 S q H) H
        · rw [if_neg h97] at H
          refine ex_icmp_eq_f h97 ?_
          refine ex_iconst (v := 0) (by decide) ?_
          have H := Option.some.inj H
          subst H
          exact ex_iret (M := 299) (Or.inr ⟨rfl, by decide⟩)
      rw [if_neg h92] at H
      by_cases h98 : ((xs x3.toNatClampNeg) &&& 63) = 16
      · rw [if_pos h98] at H
        refine ex_table (off := 871) (ct := am_c299_904) (by rw [h98]; decide) rfl ?_
        refine ex_aload_n rfl ?_
        refine ex_aload_n rfl ?_
        refine ex_iload_n rfl ?_
        refine ex_iconst (v := 1) (by decide) ?_
        refine ex_iadd ?_
        obtain ⟨hj, H⟩ := am_ck_el H
        refine ex_iald (k := Lg) (v := xs (x3 + 1).toNatClampNeg) rfl hj rfl ?_
        refine ex_aload_n rfl ?_
        refine ex_iload_n rfl ?_
        refine ex_iconst (v := 2) (by decide) ?_
        refine ex_iadd ?_
        obtain ⟨hj, H⟩ := am_ck_el H
        refine ex_iald (k := Lg) (v := xs (x3 + 2).toNatClampNeg) rfl hj rfl ?_
        obtain ⟨v99, S100, hp, H⟩ := am_b2_el H
        refine ex_callV rfl rfl (Nat.le_of_ble_eq_true rfl) (Nat.le_of_ble_eq_true rfl) rfl (r157 (by omega) hp) rfl ?_
        refine ex_aload_n rfl ?_
        refine ex_aload_n rfl ?_
        refine ex_iload_n rfl ?_
        refine ex_iconst (v := 1) (by decide) ?_
        refine ex_iadd ?_
        obtain ⟨hj, H⟩ := am_ck_el H
        refine ex_iald (k := Lg) (v := xs (x3 + 1).toNatClampNeg) rfl hj rfl ?_
        refine ex_aload_n rfl ?_
        refine ex_iload_n rfl ?_
        refine ex_iconst (v := 2) (by decide) ?_
        refine ex_iadd ?_
        obtain ⟨hj, H⟩ := am_ck_el H
        refine ex_iald (k := Lg) (v := xs (x3 + 2).toNatClampNeg) rfl hj rfl ?_
        obtain ⟨v101, S102, hp, H⟩ := am_b2_el H
        refine ex_callV rfl rfl (Nat.le_of_ble_eq_true rfl) (Nat.le_of_ble_eq_true rfl) rfl (r229 (by omega) hp) rfl ?_
        by_cases h103 : v99 = v101
        · rw [if_pos h103] at H
          refine ex_icmp_eq_j (ct := am_c299_2179) h103 rfl ?_
          exact e299_2179 hd (fun x3 S q H => ih x3 S q H) H
        · rw [if_neg h103] at H
          refine ex_icmp_eq_f h103 ?_
          refine ex_iconst (v := 0) (by decide) ?_
          have H := Option.some.inj H
          subst H
          exact ex_iret (M := 299) (Or.inr ⟨rfl, by decide⟩)
      rw [if_neg h98] at H
      by_cases h104 : ((xs x3.toNatClampNeg) &&& 63) = 17
      · rw [if_pos h104] at H
        refine ex_table (off := 904) (ct := am_c299_937) (by rw [h104]; decide) rfl ?_
        refine ex_aload_n rfl ?_
        refine ex_aload_n rfl ?_
        refine ex_iload_n rfl ?_
        refine ex_iconst (v := 1) (by decide) ?_
        refine ex_iadd ?_
        obtain ⟨hj, H⟩ := am_ck_el H
        refine ex_iald (k := Lg) (v := xs (x3 + 1).toNatClampNeg) rfl hj rfl ?_
        refine ex_aload_n rfl ?_
        refine ex_iload_n rfl ?_
        refine ex_iconst (v := 2) (by decide) ?_
        refine ex_iadd ?_
        obtain ⟨hj, H⟩ := am_ck_el H
        refine ex_iald (k := Lg) (v := xs (x3 + 2).toNatClampNeg) rfl hj rfl ?_
        obtain ⟨v105, S106, hp, H⟩ := am_b2_el H
        refine ex_callV rfl rfl (Nat.le_of_ble_eq_true rfl) (Nat.le_of_ble_eq_true rfl) rfl (r158 (by omega) hp) rfl ?_
        refine ex_aload_n rfl ?_
        refine ex_aload_n rfl ?_
        refine ex_iload_n rfl ?_
        refine ex_iconst (v := 1) (by decide) ?_
        refine ex_iadd ?_
        obtain ⟨hj, H⟩ := am_ck_el H
        refine ex_iald (k := Lg) (v := xs (x3 + 1).toNatClampNeg) rfl hj rfl ?_
        refine ex_aload_n rfl ?_
        refine ex_iload_n rfl ?_
        refine ex_iconst (v := 2) (by decide) ?_
        refine ex_iadd ?_
        obtain ⟨hj, H⟩ := am_ck_el H
        refine ex_iald (k := Lg) (v := xs (x3 + 2).toNatClampNeg) rfl hj rfl ?_
        obtain ⟨v107, S108, hp, H⟩ := am_b2_el H
        refine ex_callV rfl rfl (Nat.le_of_ble_eq_true rfl) (Nat.le_of_ble_eq_true rfl) rfl (r232 (by omega) hp) rfl ?_
        by_cases h109 : v105 = v107
        · rw [if_pos h109] at H
          refine ex_icmp_eq_j (ct := am_c299_2179) h109 rfl ?_
          exact e299_2179 hd (fun x3 S q H => ih x3 S q H) H
        · rw [if_neg h109] at H
          refine ex_icmp_eq_f h109 ?_
          refine ex_iconst (v := 0) (by decide) ?_
          have H := Option.some.inj H
          subst H
          exact ex_iret (M := 299) (Or.inr ⟨rfl, by decide⟩)
      rw [if_neg h104] at H
      by_cases h110 : ((xs x3.toNatClampNeg) &&& 63) = 18
      · rw [if_pos h110] at H
        refine ex_table (off := 937) (ct := am_c299_970) (by rw [h110]; decide) rfl ?_
        refine ex_aload_n rfl ?_
        refine ex_aload_n rfl ?_
        refine ex_iload_n rfl ?_
        refine ex_iconst (v := 1) (by decide) ?_
        refine ex_iadd ?_
        obtain ⟨hj, H⟩ := am_ck_el H
        refine ex_iald (k := Lg) (v := xs (x3 + 1).toNatClampNeg) rfl hj rfl ?_
        refine ex_aload_n rfl ?_
        refine ex_iload_n rfl ?_
        refine ex_iconst (v := 2) (by decide) ?_
        refine ex_iadd ?_
        obtain ⟨hj, H⟩ := am_ck_el H
        refine ex_iald (k := Lg) (v := xs (x3 + 2).toNatClampNeg) rfl hj rfl ?_
        refine ex_aload_n rfl ?_
        refine ex_iload_n rfl ?_
        refine ex_iconst (v := 3) (by decide) ?_
        refine ex_iadd ?_
        obtain ⟨hj, H⟩ := am_ck_el H
        refine ex_iald (k := Lg) (v := xs (x3 + 3).toNatClampNeg) rfl hj rfl ?_
        refine ex_aload_n rfl ?_
        refine ex_iload_n rfl ?_
        refine ex_iconst (v := 4) (by decide) ?_
        refine ex_iadd ?_
        obtain ⟨hj, H⟩ := am_ck_el H
        refine ex_iald (k := Lg) (v := xs (x3 + 4).toNatClampNeg) rfl hj rfl ?_
        refine ex_aload_n rfl ?_
        refine ex_iload_n rfl ?_
        refine ex_iconst (v := 5) (by decide) ?_
        refine ex_iadd ?_
        obtain ⟨hj, H⟩ := am_ck_el H
        refine ex_iald (k := Lg) (v := xs (x3 + 5).toNatClampNeg) rfl hj rfl ?_
        obtain ⟨v111, S112, hp, H⟩ := am_b2_el H
        refine ex_callV rfl rfl (Nat.le_of_ble_eq_true rfl) (Nat.le_of_ble_eq_true rfl) rfl (r159 (by omega) hp) rfl ?_
        refine ex_aload_n rfl ?_
        refine ex_aload_n rfl ?_
        refine ex_iload_n rfl ?_
        refine ex_iconst (v := 1) (by decide) ?_
        refine ex_iadd ?_
        obtain ⟨hj, H⟩ := am_ck_el H
        refine ex_iald (k := Lg) (v := xs (x3 + 1).toNatClampNeg) rfl hj rfl ?_
        refine ex_aload_n rfl ?_
        refine ex_iload_n rfl ?_
        refine ex_iconst (v := 2) (by decide) ?_
        refine ex_iadd ?_
        obtain ⟨hj, H⟩ := am_ck_el H
        refine ex_iald (k := Lg) (v := xs (x3 + 2).toNatClampNeg) rfl hj rfl ?_
        refine ex_aload_n rfl ?_
        refine ex_iload_n rfl ?_
        refine ex_iconst (v := 3) (by decide) ?_
        refine ex_iadd ?_
        obtain ⟨hj, H⟩ := am_ck_el H
        refine ex_iald (k := Lg) (v := xs (x3 + 3).toNatClampNeg) rfl hj rfl ?_
        refine ex_aload_n rfl ?_
        refine ex_iload_n rfl ?_
        refine ex_iconst (v := 4) (by decide) ?_
        refine ex_iadd ?_
        obtain ⟨hj, H⟩ := am_ck_el H
        refine ex_iald (k := Lg) (v := xs (x3 + 4).toNatClampNeg) rfl hj rfl ?_
        refine ex_aload_n rfl ?_
        refine ex_iload_n rfl ?_
        refine ex_iconst (v := 5) (by decide) ?_
        refine ex_iadd ?_
        obtain ⟨hj, H⟩ := am_ck_el H
        refine ex_iald (k := Lg) (v := xs (x3 + 5).toNatClampNeg) rfl hj rfl ?_
        obtain ⟨v113, S114, hp, H⟩ := am_b2_el H
        refine ex_callV rfl rfl (Nat.le_of_ble_eq_true rfl) (Nat.le_of_ble_eq_true rfl) rfl (r247 (by omega) hp) rfl ?_
        by_cases h115 : v111 = v113
        · rw [if_pos h115] at H
          refine ex_icmp_eq_j (ct := am_c299_2179) h115 rfl ?_
          exact e299_2179 hd (fun x3 S q H => ih x3 S q H) H
        · rw [if_neg h115] at H
          refine ex_icmp_eq_f h115 ?_
          refine ex_iconst (v := 0) (by decide) ?_
          have H := Option.some.inj H
          subst H
          exact ex_iret (M := 299) (Or.inr ⟨rfl, by decide⟩)
      rw [if_neg h110] at H
      by_cases h116 : ((xs x3.toNatClampNeg) &&& 63) = 19
      · rw [if_pos h116] at H
        refine ex_table (off := 1000) (ct := am_c299_1033) (by rw [h116]; decide) rfl ?_
        refine ex_aload_n rfl ?_
        refine ex_aload_n rfl ?_
        refine ex_iload_n rfl ?_
        refine ex_iconst (v := 1) (by decide) ?_
        refine ex_iadd ?_
        obtain ⟨hj, H⟩ := am_ck_el H
        refine ex_iald (k := Lg) (v := xs (x3 + 1).toNatClampNeg) rfl hj rfl ?_
        refine ex_aload_n rfl ?_
        refine ex_iload_n rfl ?_
        refine ex_iconst (v := 2) (by decide) ?_
        refine ex_iadd ?_
        obtain ⟨hj, H⟩ := am_ck_el H
        refine ex_iald (k := Lg) (v := xs (x3 + 2).toNatClampNeg) rfl hj rfl ?_
        refine ex_aload_n rfl ?_
        refine ex_iload_n rfl ?_
        refine ex_iconst (v := 3) (by decide) ?_
        refine ex_iadd ?_
        obtain ⟨hj, H⟩ := am_ck_el H
        refine ex_iald (k := Lg) (v := xs (x3 + 3).toNatClampNeg) rfl hj rfl ?_
        obtain ⟨v117, S118, hp, H⟩ := am_b2_el H
        refine ex_callV rfl rfl (Nat.le_of_ble_eq_true rfl) (Nat.le_of_ble_eq_true rfl) rfl (r160 (by omega) hp) rfl ?_
        refine ex_aload_n rfl ?_
        refine ex_aload_n rfl ?_
        refine ex_iload_n rfl ?_
        refine ex_iconst (v := 1) (by decide) ?_
        refine ex_iadd ?_
        obtain ⟨hj, H⟩ := am_ck_el H
        refine ex_iald (k := Lg) (v := xs (x3 + 1).toNatClampNeg) rfl hj rfl ?_
        refine ex_aload_n rfl ?_
        refine ex_iload_n rfl ?_
        refine ex_iconst (v := 2) (by decide) ?_
        refine ex_iadd ?_
        obtain ⟨hj, H⟩ := am_ck_el H
        refine ex_iald (k := Lg) (v := xs (x3 + 2).toNatClampNeg) rfl hj rfl ?_
        refine ex_aload_n rfl ?_
        refine ex_iload_n rfl ?_
        refine ex_iconst (v := 3) (by decide) ?_
        refine ex_iadd ?_
        obtain ⟨hj, H⟩ := am_ck_el H
        refine ex_iald (k := Lg) (v := xs (x3 + 3).toNatClampNeg) rfl hj rfl ?_
        obtain ⟨v119, S120, hp, H⟩ := am_b2_el H
        refine ex_callV rfl rfl (Nat.le_of_ble_eq_true rfl) (Nat.le_of_ble_eq_true rfl) rfl (r248 (by omega) hp) rfl ?_
        by_cases h121 : v117 = v119
        · rw [if_pos h121] at H
          refine ex_icmp_eq_j (ct := am_c299_2179) h121 rfl ?_
          exact e299_2179 hd (fun x3 S q H => ih x3 S q H) H
        · rw [if_neg h121] at H
          refine ex_icmp_eq_f h121 ?_
          refine ex_iconst (v := 0) (by decide) ?_
          have H := Option.some.inj H
          subst H
          exact ex_iret (M := 299) (Or.inr ⟨rfl, by decide⟩)
      rw [if_neg h116] at H
      by_cases h122 : ((xs x3.toNatClampNeg) &&& 63) = 20
      · rw [if_pos h122] at H
        refine ex_table (off := 1043) (ct := am_c299_1076) (by rw [h122]; decide) rfl ?_
        refine ex_aload_n rfl ?_
        refine ex_aload_n rfl ?_
        refine ex_iload_n rfl ?_
        refine ex_iconst (v := 1) (by decide) ?_
        refine ex_iadd ?_
        obtain ⟨hj, H⟩ := am_ck_el H
        refine ex_iald (k := Lg) (v := xs (x3 + 1).toNatClampNeg) rfl hj rfl ?_
        refine ex_aload_n rfl ?_
        refine ex_iload_n rfl ?_
        refine ex_iconst (v := 2) (by decide) ?_
        refine ex_iadd ?_
        obtain ⟨hj, H⟩ := am_ck_el H
        refine ex_iald (k := Lg) (v := xs (x3 + 2).toNatClampNeg) rfl hj rfl ?_
        refine ex_aload_n rfl ?_
        refine ex_iload_n rfl ?_
        refine ex_iconst (v := 3) (by decide) ?_
        refine ex_iadd ?_
        obtain ⟨hj, H⟩ := am_ck_el H
        refine ex_iald (k := Lg) (v := xs (x3 + 3).toNatClampNeg) rfl hj rfl ?_
        obtain ⟨v123, S124, hp, H⟩ := am_b2_el H
        refine ex_callV rfl rfl (Nat.le_of_ble_eq_true rfl) (Nat.le_of_ble_eq_true rfl) rfl (r163 (by omega) hp) rfl ?_
        refine ex_aload_n rfl ?_
        refine ex_aload_n rfl ?_
        refine ex_iload_n rfl ?_
        refine ex_iconst (v := 1) (by decide) ?_
        refine ex_iadd ?_
        obtain ⟨hj, H⟩ := am_ck_el H
        refine ex_iald (k := Lg) (v := xs (x3 + 1).toNatClampNeg) rfl hj rfl ?_
        refine ex_aload_n rfl ?_
        refine ex_iload_n rfl ?_
        refine ex_iconst (v := 2) (by decide) ?_
        refine ex_iadd ?_
        obtain ⟨hj, H⟩ := am_ck_el H
        refine ex_iald (k := Lg) (v := xs (x3 + 2).toNatClampNeg) rfl hj rfl ?_
        refine ex_aload_n rfl ?_
        refine ex_iload_n rfl ?_
        refine ex_iconst (v := 3) (by decide) ?_
        refine ex_iadd ?_
        obtain ⟨hj, H⟩ := am_ck_el H
        refine ex_iald (k := Lg) (v := xs (x3 + 3).toNatClampNeg) rfl hj rfl ?_
        obtain ⟨v125, S126, hp, H⟩ := am_b2_el H
        refine ex_callV rfl rfl (Nat.le_of_ble_eq_true rfl) (Nat.le_of_ble_eq_true rfl) rfl (r252 (by omega) hp) rfl ?_
        by_cases h127 : v123 = v125
        · rw [if_pos h127] at H
          refine ex_icmp_eq_j (ct := am_c299_2179) h127 rfl ?_
          exact e299_2179 hd (fun x3 S q H => ih x3 S q H) H
        · rw [if_neg h127] at H
          refine ex_icmp_eq_f h127 ?_
          refine ex_iconst (v := 0) (by decide) ?_
          have H := Option.some.inj H
          subst H
          exact ex_iret (M := 299) (Or.inr ⟨rfl, by decide⟩)
      rw [if_neg h122] at H
      by_cases h128 : ((xs x3.toNatClampNeg) &&& 63) = 21
      · rw [if_pos h128] at H
        refine ex_table (off := 1086) (ct := am_c299_1119) (by rw [h128]; decide) rfl ?_
        refine ex_aload_n rfl ?_
        refine ex_aload_n rfl ?_
        refine ex_iload_n rfl ?_
        refine ex_iconst (v := 1) (by decide) ?_
        refine ex_iadd ?_
        obtain ⟨hj, H⟩ := am_ck_el H
        refine ex_iald (k := Lg) (v := xs (x3 + 1).toNatClampNeg) rfl hj rfl ?_
        refine ex_aload_n rfl ?_
        refine ex_iload_n rfl ?_
        refine ex_iconst (v := 2) (by decide) ?_
        refine ex_iadd ?_
        obtain ⟨hj, H⟩ := am_ck_el H
        refine ex_iald (k := Lg) (v := xs (x3 + 2).toNatClampNeg) rfl hj rfl ?_
        refine ex_aload_n rfl ?_
        refine ex_iload_n rfl ?_
        refine ex_iconst (v := 3) (by decide) ?_
        refine ex_iadd ?_
        obtain ⟨hj, H⟩ := am_ck_el H
        refine ex_iald (k := Lg) (v := xs (x3 + 3).toNatClampNeg) rfl hj rfl ?_
        obtain ⟨v129, S130, hp, H⟩ := am_b2_el H
        refine ex_callV rfl rfl (Nat.le_of_ble_eq_true rfl) (Nat.le_of_ble_eq_true rfl) rfl (r164 (by omega) hp) rfl ?_
        refine ex_aload_n rfl ?_
        refine ex_aload_n rfl ?_
        refine ex_iload_n rfl ?_
        refine ex_iconst (v := 1) (by decide) ?_
        refine ex_iadd ?_
        obtain ⟨hj, H⟩ := am_ck_el H
        refine ex_iald (k := Lg) (v := xs (x3 + 1).toNatClampNeg) rfl hj rfl ?_
        refine ex_aload_n rfl ?_
        refine ex_iload_n rfl ?_
        refine ex_iconst (v := 2) (by decide) ?_
        refine ex_iadd ?_
        obtain ⟨hj, H⟩ := am_ck_el H
        refine ex_iald (k := Lg) (v := xs (x3 + 2).toNatClampNeg) rfl hj rfl ?_
        refine ex_aload_n rfl ?_
        refine ex_iload_n rfl ?_
        refine ex_iconst (v := 3) (by decide) ?_
        refine ex_iadd ?_
        obtain ⟨hj, H⟩ := am_ck_el H
        refine ex_iald (k := Lg) (v := xs (x3 + 3).toNatClampNeg) rfl hj rfl ?_
        obtain ⟨v131, S132, hp, H⟩ := am_b2_el H
        refine ex_callV rfl rfl (Nat.le_of_ble_eq_true rfl) (Nat.le_of_ble_eq_true rfl) rfl (r253 (by omega) hp) rfl ?_
        by_cases h133 : v129 = v131
        · rw [if_pos h133] at H
          refine ex_icmp_eq_j (ct := am_c299_2179) h133 rfl ?_
          exact e299_2179 hd (fun x3 S q H => ih x3 S q H) H
        · rw [if_neg h133] at H
          refine ex_icmp_eq_f h133 ?_
          refine ex_iconst (v := 0) (by decide) ?_
          have H := Option.some.inj H
          subst H
          exact ex_iret (M := 299) (Or.inr ⟨rfl, by decide⟩)
      rw [if_neg h128] at H
      by_cases h134 : ((xs x3.toNatClampNeg) &&& 63) = 22
      · rw [if_pos h134] at H
        refine ex_table (off := 1129) (ct := am_c299_1162) (by rw [h134]; decide) rfl ?_
        refine ex_aload_n rfl ?_
        refine ex_aload_n rfl ?_
        refine ex_iload_n rfl ?_
        refine ex_iconst (v := 1) (by decide) ?_
        refine ex_iadd ?_
        obtain ⟨hj, H⟩ := am_ck_el H
        refine ex_iald (k := Lg) (v := xs (x3 + 1).toNatClampNeg) rfl hj rfl ?_
        refine ex_aload_n rfl ?_
        refine ex_iload_n rfl ?_
        refine ex_iconst (v := 2) (by decide) ?_
        refine ex_iadd ?_
        obtain ⟨hj, H⟩ := am_ck_el H
        refine ex_iald (k := Lg) (v := xs (x3 + 2).toNatClampNeg) rfl hj rfl ?_
        refine ex_aload_n rfl ?_
        refine ex_iload_n rfl ?_
        refine ex_iconst (v := 3) (by decide) ?_
        refine ex_iadd ?_
        obtain ⟨hj, H⟩ := am_ck_el H
        refine ex_iald (k := Lg) (v := xs (x3 + 3).toNatClampNeg) rfl hj rfl ?_
        refine ex_aload_n rfl ?_
        refine ex_iload_n rfl ?_
        refine ex_iconst (v := 4) (by decide) ?_
        refine ex_iadd ?_
        obtain ⟨hj, H⟩ := am_ck_el H
        refine ex_iald (k := Lg) (v := xs (x3 + 4).toNatClampNeg) rfl hj rfl ?_
        refine ex_aload_n rfl ?_
        refine ex_iload_n rfl ?_
        refine ex_iconst (v := 5) (by decide) ?_
        refine ex_iadd ?_
        obtain ⟨hj, H⟩ := am_ck_el H
        refine ex_iald (k := Lg) (v := xs (x3 + 5).toNatClampNeg) rfl hj rfl ?_
        refine ex_aload_n rfl ?_
        refine ex_iload_n rfl ?_
        refine ex_bipush (v := 6) (by decide) ?_
        refine ex_iadd ?_
        obtain ⟨hj, H⟩ := am_ck_el H
        refine ex_iald (k := Lg) (v := xs (x3 + 6).toNatClampNeg) rfl hj rfl ?_
        obtain ⟨v135, S136, hp, H⟩ := am_b2_el H
        refine ex_callV rfl rfl (Nat.le_of_ble_eq_true rfl) (Nat.le_of_ble_eq_true rfl) rfl (r165 (by omega) hp) rfl ?_
        refine ex_aload_n rfl ?_
        refine ex_aload_n rfl ?_
        refine ex_iload_n rfl ?_
        refine ex_iconst (v := 1) (by decide) ?_
        refine ex_iadd ?_
        obtain ⟨hj, H⟩ := am_ck_el H
        refine ex_iald (k := Lg) (v := xs (x3 + 1).toNatClampNeg) rfl hj rfl ?_
        refine ex_aload_n rfl ?_
        refine ex_iload_n rfl ?_
        refine ex_iconst (v := 2) (by decide) ?_
        refine ex_iadd ?_
        obtain ⟨hj, H⟩ := am_ck_el H
        refine ex_iald (k := Lg) (v := xs (x3 + 2).toNatClampNeg) rfl hj rfl ?_
        refine ex_aload_n rfl ?_
        refine ex_iload_n rfl ?_
        refine ex_iconst (v := 3) (by decide) ?_
        refine ex_iadd ?_
        obtain ⟨hj, H⟩ := am_ck_el H
        refine ex_iald (k := Lg) (v := xs (x3 + 3).toNatClampNeg) rfl hj rfl ?_
        refine ex_aload_n rfl ?_
        refine ex_iload_n rfl ?_
        refine ex_iconst (v := 4) (by decide) ?_
        refine ex_iadd ?_
        obtain ⟨hj, H⟩ := am_ck_el H
        refine ex_iald (k := Lg) (v := xs (x3 + 4).toNatClampNeg) rfl hj rfl ?_
        refine ex_aload_n rfl ?_
        refine ex_iload_n rfl ?_
        refine ex_iconst (v := 5) (by decide) ?_
        refine ex_iadd ?_
        obtain ⟨hj, H⟩ := am_ck_el H
        refine ex_iald (k := Lg) (v := xs (x3 + 5).toNatClampNeg) rfl hj rfl ?_
        refine ex_aload_n rfl ?_
        refine ex_iload_n rfl ?_
        refine ex_bipush (v := 6) (by decide) ?_
        refine ex_iadd ?_
        obtain ⟨hj, H⟩ := am_ck_el H
        refine ex_iald (k := Lg) (v := xs (x3 + 6).toNatClampNeg) rfl hj rfl ?_
        obtain ⟨v137, S138, hp, H⟩ := am_b2_el H
        refine ex_callV rfl rfl (Nat.le_of_ble_eq_true rfl) (Nat.le_of_ble_eq_true rfl) rfl (r255 (by omega) hp) rfl ?_
        by_cases h139 : v135 = v137
        · rw [if_pos h139] at H
          refine ex_icmp_eq_j (ct := am_c299_2179) h139 rfl ?_
          exact e299_2179 hd (fun x3 S q H => ih x3 S q H) H
        · rw [if_neg h139] at H
          refine ex_icmp_eq_f h139 ?_
          refine ex_iconst (v := 0) (by decide) ?_
          have H := Option.some.inj H
          subst H
          exact ex_iret (M := 299) (Or.inr ⟨rfl, by decide⟩)
      rw [if_neg h134] at H
      by_cases h140 : ((xs x3.toNatClampNeg) &&& 63) = 23
      · rw [if_pos h140] at H
        refine ex_table (off := 1204) (ct := am_c299_1237) (by rw [h140]; decide) rfl ?_
        refine ex_aload_n rfl ?_
        refine ex_aload_n rfl ?_
        refine ex_iload_n rfl ?_
        refine ex_iconst (v := 1) (by decide) ?_
        refine ex_iadd ?_
        obtain ⟨hj, H⟩ := am_ck_el H
        refine ex_iald (k := Lg) (v := xs (x3 + 1).toNatClampNeg) rfl hj rfl ?_
        refine ex_aload_n rfl ?_
        refine ex_iload_n rfl ?_
        refine ex_iconst (v := 2) (by decide) ?_
        refine ex_iadd ?_
        obtain ⟨hj, H⟩ := am_ck_el H
        refine ex_iald (k := Lg) (v := xs (x3 + 2).toNatClampNeg) rfl hj rfl ?_
        refine ex_aload_n rfl ?_
        refine ex_iload_n rfl ?_
        refine ex_iconst (v := 3) (by decide) ?_
        refine ex_iadd ?_
        obtain ⟨hj, H⟩ := am_ck_el H
        refine ex_iald (k := Lg) (v := xs (x3 + 3).toNatClampNeg) rfl hj rfl ?_
        refine ex_aload_n rfl ?_
        refine ex_iload_n rfl ?_
        refine ex_iconst (v := 4) (by decide) ?_
        refine ex_iadd ?_
        obtain ⟨hj, H⟩ := am_ck_el H
        refine ex_iald (k := Lg) (v := xs (x3 + 4).toNatClampNeg) rfl hj rfl ?_
        refine ex_aload_n rfl ?_
        refine ex_iload_n rfl ?_
        refine ex_iconst (v := 5) (by decide) ?_
        refine ex_iadd ?_
        obtain ⟨hj, H⟩ := am_ck_el H
        refine ex_iald (k := Lg) (v := xs (x3 + 5).toNatClampNeg) rfl hj rfl ?_
        obtain ⟨v141, S142, hp, H⟩ := am_b2_el H
        refine ex_callV rfl rfl (Nat.le_of_ble_eq_true rfl) (Nat.le_of_ble_eq_true rfl) rfl (r166 (by omega) hp) rfl ?_
        refine ex_aload_n rfl ?_
        refine ex_aload_n rfl ?_
        refine ex_iload_n rfl ?_
        refine ex_iconst (v := 1) (by decide) ?_
        refine ex_iadd ?_
        obtain ⟨hj, H⟩ := am_ck_el H
        refine ex_iald (k := Lg) (v := xs (x3 + 1).toNatClampNeg) rfl hj rfl ?_
        refine ex_aload_n rfl ?_
        refine ex_iload_n rfl ?_
        refine ex_iconst (v := 2) (by decide) ?_
        refine ex_iadd ?_
        obtain ⟨hj, H⟩ := am_ck_el H
        refine ex_iald (k := Lg) (v := xs (x3 + 2).toNatClampNeg) rfl hj rfl ?_
        refine ex_aload_n rfl ?_
        refine ex_iload_n rfl ?_
        refine ex_iconst (v := 3) (by decide) ?_
        refine ex_iadd ?_
        obtain ⟨hj, H⟩ := am_ck_el H
        refine ex_iald (k := Lg) (v := xs (x3 + 3).toNatClampNeg) rfl hj rfl ?_
        refine ex_aload_n rfl ?_
        refine ex_iload_n rfl ?_
        refine ex_iconst (v := 4) (by decide) ?_
        refine ex_iadd ?_
        obtain ⟨hj, H⟩ := am_ck_el H
        refine ex_iald (k := Lg) (v := xs (x3 + 4).toNatClampNeg) rfl hj rfl ?_
        refine ex_aload_n rfl ?_
        refine ex_iload_n rfl ?_
        refine ex_iconst (v := 5) (by decide) ?_
        refine ex_iadd ?_
        obtain ⟨hj, H⟩ := am_ck_el H
        refine ex_iald (k := Lg) (v := xs (x3 + 5).toNatClampNeg) rfl hj rfl ?_
        obtain ⟨v143, S144, hp, H⟩ := am_b2_el H
        refine ex_callV rfl rfl (Nat.le_of_ble_eq_true rfl) (Nat.le_of_ble_eq_true rfl) rfl (r256 (by omega) hp) rfl ?_
        by_cases h145 : v141 = v143
        · rw [if_pos h145] at H
          refine ex_icmp_eq_j (ct := am_c299_2179) h145 rfl ?_
          exact e299_2179 hd (fun x3 S q H => ih x3 S q H) H
        · rw [if_neg h145] at H
          refine ex_icmp_eq_f h145 ?_
          refine ex_iconst (v := 0) (by decide) ?_
          have H := Option.some.inj H
          subst H
          exact ex_iret (M := 299) (Or.inr ⟨rfl, by decide⟩)
      rw [if_neg h140] at H
      by_cases h146 : ((xs x3.toNatClampNeg) &&& 63) = 24
      · rw [if_pos h146] at H
        refine ex_table (off := 1267) (ct := am_c299_1300) (by rw [h146]; decide) rfl ?_
        refine ex_aload_n rfl ?_
        refine ex_aload_n rfl ?_
        refine ex_iload_n rfl ?_
        refine ex_iconst (v := 1) (by decide) ?_
        refine ex_iadd ?_
        obtain ⟨hj, H⟩ := am_ck_el H
        refine ex_iald (k := Lg) (v := xs (x3 + 1).toNatClampNeg) rfl hj rfl ?_
        refine ex_aload_n rfl ?_
        refine ex_iload_n rfl ?_
        refine ex_iconst (v := 2) (by decide) ?_
        refine ex_iadd ?_
        obtain ⟨hj, H⟩ := am_ck_el H
        refine ex_iald (k := Lg) (v := xs (x3 + 2).toNatClampNeg) rfl hj rfl ?_
        refine ex_aload_n rfl ?_
        refine ex_iload_n rfl ?_
        refine ex_iconst (v := 3) (by decide) ?_
        refine ex_iadd ?_
        obtain ⟨hj, H⟩ := am_ck_el H
        refine ex_iald (k := Lg) (v := xs (x3 + 3).toNatClampNeg) rfl hj rfl ?_
        refine ex_aload_n rfl ?_
        refine ex_iload_n rfl ?_
        refine ex_iconst (v := 4) (by decide) ?_
        refine ex_iadd ?_
        obtain ⟨hj, H⟩ := am_ck_el H
        refine ex_iald (k := Lg) (v := xs (x3 + 4).toNatClampNeg) rfl hj rfl ?_
        refine ex_aload_n rfl ?_
        refine ex_iload_n rfl ?_
        refine ex_iconst (v := 5) (by decide) ?_
        refine ex_iadd ?_
        obtain ⟨hj, H⟩ := am_ck_el H
        refine ex_iald (k := Lg) (v := xs (x3 + 5).toNatClampNeg) rfl hj rfl ?_
        refine ex_aload_n rfl ?_
        refine ex_iload_n rfl ?_
        refine ex_bipush (v := 6) (by decide) ?_
        refine ex_iadd ?_
        obtain ⟨hj, H⟩ := am_ck_el H
        refine ex_iald (k := Lg) (v := xs (x3 + 6).toNatClampNeg) rfl hj rfl ?_
        refine ex_aload_n rfl ?_
        refine ex_iload_n rfl ?_
        refine ex_bipush (v := 7) (by decide) ?_
        refine ex_iadd ?_
        obtain ⟨hj, H⟩ := am_ck_el H
        refine ex_iald (k := Lg) (v := xs (x3 + 7).toNatClampNeg) rfl hj rfl ?_
        refine ex_aload_n rfl ?_
        refine ex_iload_n rfl ?_
        refine ex_bipush (v := 8) (by decide) ?_
        refine ex_iadd ?_
        obtain ⟨hj, H⟩ := am_ck_el H
        refine ex_iald (k := Lg) (v := xs (x3 + 8).toNatClampNeg) rfl hj rfl ?_
        obtain ⟨v147, S148, hp, H⟩ := am_b2_el H
        refine ex_callV rfl rfl (Nat.le_of_ble_eq_true rfl) (Nat.le_of_ble_eq_true rfl) rfl (r167 (by omega) hp) rfl ?_
        refine ex_aload_n rfl ?_
        refine ex_aload_n rfl ?_
        refine ex_iload_n rfl ?_
        refine ex_iconst (v := 1) (by decide) ?_
        refine ex_iadd ?_
        obtain ⟨hj, H⟩ := am_ck_el H
        refine ex_iald (k := Lg) (v := xs (x3 + 1).toNatClampNeg) rfl hj rfl ?_
        refine ex_aload_n rfl ?_
        refine ex_iload_n rfl ?_
        refine ex_iconst (v := 2) (by decide) ?_
        refine ex_iadd ?_
        obtain ⟨hj, H⟩ := am_ck_el H
        refine ex_iald (k := Lg) (v := xs (x3 + 2).toNatClampNeg) rfl hj rfl ?_
        refine ex_aload_n rfl ?_
        refine ex_iload_n rfl ?_
        refine ex_iconst (v := 3) (by decide) ?_
        refine ex_iadd ?_
        obtain ⟨hj, H⟩ := am_ck_el H
        refine ex_iald (k := Lg) (v := xs (x3 + 3).toNatClampNeg) rfl hj rfl ?_
        refine ex_aload_n rfl ?_
        refine ex_iload_n rfl ?_
        refine ex_iconst (v := 4) (by decide) ?_
        refine ex_iadd ?_
        obtain ⟨hj, H⟩ := am_ck_el H
        refine ex_iald (k := Lg) (v := xs (x3 + 4).toNatClampNeg) rfl hj rfl ?_
        refine ex_aload_n rfl ?_
        refine ex_iload_n rfl ?_
        refine ex_iconst (v := 5) (by decide) ?_
        refine ex_iadd ?_
        obtain ⟨hj, H⟩ := am_ck_el H
        refine ex_iald (k := Lg) (v := xs (x3 + 5).toNatClampNeg) rfl hj rfl ?_
        refine ex_aload_n rfl ?_
        refine ex_iload_n rfl ?_
        refine ex_bipush (v := 6) (by decide) ?_
        refine ex_iadd ?_
        obtain ⟨hj, H⟩ := am_ck_el H
        refine ex_iald (k := Lg) (v := xs (x3 + 6).toNatClampNeg) rfl hj rfl ?_
        refine ex_aload_n rfl ?_
        refine ex_iload_n rfl ?_
        refine ex_bipush (v := 7) (by decide) ?_
        refine ex_iadd ?_
        obtain ⟨hj, H⟩ := am_ck_el H
        refine ex_iald (k := Lg) (v := xs (x3 + 7).toNatClampNeg) rfl hj rfl ?_
        refine ex_aload_n rfl ?_
        refine ex_iload_n rfl ?_
        refine ex_bipush (v := 8) (by decide) ?_
        refine ex_iadd ?_
        obtain ⟨hj, H⟩ := am_ck_el H
        refine ex_iald (k := Lg) (v := xs (x3 + 8).toNatClampNeg) rfl hj rfl ?_
        obtain ⟨v149, S150, hp, H⟩ := am_b2_el H
        refine ex_callV rfl rfl (Nat.le_of_ble_eq_true rfl) (Nat.le_of_ble_eq_true rfl) rfl (r258 (by omega) hp) rfl ?_
        by_cases h151 : v147 = v149
        · rw [if_pos h151] at H
          refine ex_icmp_eq_j (ct := am_c299_2179) h151 rfl ?_
          exact e299_2179 hd (fun x3 S q H => ih x3 S q H) H
        · rw [if_neg h151] at H
          refine ex_icmp_eq_f h151 ?_
          refine ex_iconst (v := 0) (by decide) ?_
          have H := Option.some.inj H
          subst H
          exact ex_iret (M := 299) (Or.inr ⟨rfl, by decide⟩)
      rw [if_neg h146] at H
      by_cases h152 : ((xs x3.toNatClampNeg) &&& 63) = 25
      · rw [if_pos h152] at H
        refine ex_table (off := 1366) (ct := am_c299_1399) (by rw [h152]; decide) rfl ?_
        refine ex_aload_n rfl ?_
        refine ex_aload_n rfl ?_
        refine ex_iload_n rfl ?_
        refine ex_iconst (v := 1) (by decide) ?_
        refine ex_iadd ?_
        obtain ⟨hj, H⟩ := am_ck_el H
        refine ex_iald (k := Lg) (v := xs (x3 + 1).toNatClampNeg) rfl hj rfl ?_
        refine ex_aload_n rfl ?_
        refine ex_iload_n rfl ?_
        refine ex_iconst (v := 2) (by decide) ?_
        refine ex_iadd ?_
        obtain ⟨hj, H⟩ := am_ck_el H
        refine ex_iald (k := Lg) (v := xs (x3 + 2).toNatClampNeg) rfl hj rfl ?_
        refine ex_aload_n rfl ?_
        refine ex_iload_n rfl ?_
        refine ex_iconst (v := 3) (by decide) ?_
        refine ex_iadd ?_
        obtain ⟨hj, H⟩ := am_ck_el H
        refine ex_iald (k := Lg) (v := xs (x3 + 3).toNatClampNeg) rfl hj rfl ?_
        obtain ⟨v153, S154, hp, H⟩ := am_b2_el H
        refine ex_callV rfl rfl (Nat.le_of_ble_eq_true rfl) (Nat.le_of_ble_eq_true rfl) rfl (r168 (by omega) hp) rfl ?_
        refine ex_aload_n rfl ?_
        refine ex_aload_n rfl ?_
        refine ex_iload_n rfl ?_
        refine ex_iconst (v := 1) (by decide) ?_
        refine ex_iadd ?_
        obtain ⟨hj, H⟩ := am_ck_el H
        refine ex_iald (k := Lg) (v := xs (x3 + 1).toNatClampNeg) rfl hj rfl ?_
        refine ex_aload_n rfl ?_
        refine ex_iload_n rfl ?_
        refine ex_iconst (v := 2) (by decide) ?_
        refine ex_iadd ?_
        obtain ⟨hj, H⟩ := am_ck_el H
        refine ex_iald (k := Lg) (v := xs (x3 + 2).toNatClampNeg) rfl hj rfl ?_
        refine ex_aload_n rfl ?_
        refine ex_iload_n rfl ?_
        refine ex_iconst (v := 3) (by decide) ?_
        refine ex_iadd ?_
        obtain ⟨hj, H⟩ := am_ck_el H
        refine ex_iald (k := Lg) (v := xs (x3 + 3).toNatClampNeg) rfl hj rfl ?_
        obtain ⟨v155, S156, hp, H⟩ := am_b2_el H
        refine ex_callV rfl rfl (Nat.le_of_ble_eq_true rfl) (Nat.le_of_ble_eq_true rfl) rfl (r264 (by omega) hp) rfl ?_
        by_cases h157 : v153 = v155
        · rw [if_pos h157] at H
          refine ex_icmp_eq_j (ct := am_c299_2179) h157 rfl ?_
          exact e299_2179 hd (fun x3 S q H => ih x3 S q H) H
        · rw [if_neg h157] at H
          refine ex_icmp_eq_f h157 ?_
          refine ex_iconst (v := 0) (by decide) ?_
          have H := Option.some.inj H
          subst H
          exact ex_iret (M := 299) (Or.inr ⟨rfl, by decide⟩)
      rw [if_neg h152] at H
      by_cases h158 : ((xs x3.toNatClampNeg) &&& 63) = 26
      · rw [if_pos h158] at H
        refine ex_table (off := 1409) (ct := am_c299_1442) (by rw [h158]; decide) rfl ?_
        refine ex_aload_n rfl ?_
        refine ex_aload_n rfl ?_
        refine ex_iload_n rfl ?_
        refine ex_iconst (v := 1) (by decide) ?_
        refine ex_iadd ?_
        obtain ⟨hj, H⟩ := am_ck_el H
        refine ex_iald (k := Lg) (v := xs (x3 + 1).toNatClampNeg) rfl hj rfl ?_
        refine ex_aload_n rfl ?_
        refine ex_iload_n rfl ?_
        refine ex_iconst (v := 2) (by decide) ?_
        refine ex_iadd ?_
        obtain ⟨hj, H⟩ := am_ck_el H
        refine ex_iald (k := Lg) (v := xs (x3 + 2).toNatClampNeg) rfl hj rfl ?_
        refine ex_aload_n rfl ?_
        refine ex_iload_n rfl ?_
        refine ex_iconst (v := 3) (by decide) ?_
        refine ex_iadd ?_
        obtain ⟨hj, H⟩ := am_ck_el H
        refine ex_iald (k := Lg) (v := xs (x3 + 3).toNatClampNeg) rfl hj rfl ?_
        obtain ⟨v159, S160, hp, H⟩ := am_b2_el H
        refine ex_callV rfl rfl (Nat.le_of_ble_eq_true rfl) (Nat.le_of_ble_eq_true rfl) rfl (r169 (by omega) hp) rfl ?_
        refine ex_aload_n rfl ?_
        refine ex_aload_n rfl ?_
        refine ex_iload_n rfl ?_
        refine ex_iconst (v := 1) (by decide) ?_
        refine ex_iadd ?_
        obtain ⟨hj, H⟩ := am_ck_el H
        refine ex_iald (k := Lg) (v := xs (x3 + 1).toNatClampNeg) rfl hj rfl ?_
        refine ex_aload_n rfl ?_
        refine ex_iload_n rfl ?_
        refine ex_iconst (v := 2) (by decide) ?_
        refine ex_iadd ?_
        obtain ⟨hj, H⟩ := am_ck_el H
        refine ex_iald (k := Lg) (v := xs (x3 + 2).toNatClampNeg) rfl hj rfl ?_
        refine ex_aload_n rfl ?_
        refine ex_iload_n rfl ?_
        refine ex_iconst (v := 3) (by decide) ?_
        refine ex_iadd ?_
        obtain ⟨hj, H⟩ := am_ck_el H
        refine ex_iald (k := Lg) (v := xs (x3 + 3).toNatClampNeg) rfl hj rfl ?_
        obtain ⟨v161, S162, hp, H⟩ := am_b2_el H
        refine ex_callV rfl rfl (Nat.le_of_ble_eq_true rfl) (Nat.le_of_ble_eq_true rfl) rfl (r265 (by omega) hp) rfl ?_
        by_cases h163 : v159 = v161
        · rw [if_pos h163] at H
          refine ex_icmp_eq_j (ct := am_c299_2179) h163 rfl ?_
          exact e299_2179 hd (fun x3 S q H => ih x3 S q H) H
        · rw [if_neg h163] at H
          refine ex_icmp_eq_f h163 ?_
          refine ex_iconst (v := 0) (by decide) ?_
          have H := Option.some.inj H
          subst H
          exact ex_iret (M := 299) (Or.inr ⟨rfl, by decide⟩)
      rw [if_neg h158] at H
      by_cases h164 : ((xs x3.toNatClampNeg) &&& 63) = 27
      · rw [if_pos h164] at H
        refine ex_table (off := 1452) (ct := am_c299_1485) (by rw [h164]; decide) rfl ?_
        refine ex_aload_n rfl ?_
        refine ex_aload_n rfl ?_
        refine ex_iload_n rfl ?_
        refine ex_iconst (v := 1) (by decide) ?_
        refine ex_iadd ?_
        obtain ⟨hj, H⟩ := am_ck_el H
        refine ex_iald (k := Lg) (v := xs (x3 + 1).toNatClampNeg) rfl hj rfl ?_
        refine ex_aload_n rfl ?_
        refine ex_iload_n rfl ?_
        refine ex_iconst (v := 2) (by decide) ?_
        refine ex_iadd ?_
        obtain ⟨hj, H⟩ := am_ck_el H
        refine ex_iald (k := Lg) (v := xs (x3 + 2).toNatClampNeg) rfl hj rfl ?_
        refine ex_aload_n rfl ?_
        refine ex_iload_n rfl ?_
        refine ex_iconst (v := 3) (by decide) ?_
        refine ex_iadd ?_
        obtain ⟨hj, H⟩ := am_ck_el H
        refine ex_iald (k := Lg) (v := xs (x3 + 3).toNatClampNeg) rfl hj rfl ?_
        refine ex_aload_n rfl ?_
        refine ex_iload_n rfl ?_
        refine ex_iconst (v := 4) (by decide) ?_
        refine ex_iadd ?_
        obtain ⟨hj, H⟩ := am_ck_el H
        refine ex_iald (k := Lg) (v := xs (x3 + 4).toNatClampNeg) rfl hj rfl ?_
        refine ex_aload_n rfl ?_
        refine ex_iload_n rfl ?_
        refine ex_iconst (v := 5) (by decide) ?_
        refine ex_iadd ?_
        obtain ⟨hj, H⟩ := am_ck_el H
        refine ex_iald (k := Lg) (v := xs (x3 + 5).toNatClampNeg) rfl hj rfl ?_
        refine ex_aload_n rfl ?_
        refine ex_iload_n rfl ?_
        refine ex_bipush (v := 6) (by decide) ?_
        refine ex_iadd ?_
        obtain ⟨hj, H⟩ := am_ck_el H
        refine ex_iald (k := Lg) (v := xs (x3 + 6).toNatClampNeg) rfl hj rfl ?_
        obtain ⟨v165, S166, hp, H⟩ := am_b2_el H
        refine ex_callV rfl rfl (Nat.le_of_ble_eq_true rfl) (Nat.le_of_ble_eq_true rfl) rfl (r170 (by omega) hp) rfl ?_
        refine ex_aload_n rfl ?_
        refine ex_aload_n rfl ?_
        refine ex_iload_n rfl ?_
        refine ex_iconst (v := 1) (by decide) ?_
        refine ex_iadd ?_
        obtain ⟨hj, H⟩ := am_ck_el H
        refine ex_iald (k := Lg) (v := xs (x3 + 1).toNatClampNeg) rfl hj rfl ?_
        refine ex_aload_n rfl ?_
        refine ex_iload_n rfl ?_
        refine ex_iconst (v := 2) (by decide) ?_
        refine ex_iadd ?_
        obtain ⟨hj, H⟩ := am_ck_el H
        refine ex_iald (k := Lg) (v := xs (x3 + 2).toNatClampNeg) rfl hj rfl ?_
        refine ex_aload_n rfl ?_
        refine ex_iload_n rfl ?_
        refine ex_iconst (v := 3) (by decide) ?_
        refine ex_iadd ?_
        obtain ⟨hj, H⟩ := am_ck_el H
        refine ex_iald (k := Lg) (v := xs (x3 + 3).toNatClampNeg) rfl hj rfl ?_
        refine ex_aload_n rfl ?_
        refine ex_iload_n rfl ?_
        refine ex_iconst (v := 4) (by decide) ?_
        refine ex_iadd ?_
        obtain ⟨hj, H⟩ := am_ck_el H
        refine ex_iald (k := Lg) (v := xs (x3 + 4).toNatClampNeg) rfl hj rfl ?_
        refine ex_aload_n rfl ?_
        refine ex_iload_n rfl ?_
        refine ex_iconst (v := 5) (by decide) ?_
        refine ex_iadd ?_
        obtain ⟨hj, H⟩ := am_ck_el H
        refine ex_iald (k := Lg) (v := xs (x3 + 5).toNatClampNeg) rfl hj rfl ?_
        refine ex_aload_n rfl ?_
        refine ex_iload_n rfl ?_
        refine ex_bipush (v := 6) (by decide) ?_
        refine ex_iadd ?_
        obtain ⟨hj, H⟩ := am_ck_el H
        refine ex_iald (k := Lg) (v := xs (x3 + 6).toNatClampNeg) rfl hj rfl ?_
        obtain ⟨v167, S168, hp, H⟩ := am_b2_el H
        refine ex_callV rfl rfl (Nat.le_of_ble_eq_true rfl) (Nat.le_of_ble_eq_true rfl) rfl (r267 (by omega) hp) rfl ?_
        by_cases h169 : v165 = v167
        · rw [if_pos h169] at H
          refine ex_icmp_eq_j (ct := am_c299_2179) h169 rfl ?_
          exact e299_2179 hd (fun x3 S q H => ih x3 S q H) H
        · rw [if_neg h169] at H
          refine ex_icmp_eq_f h169 ?_
          refine ex_iconst (v := 0) (by decide) ?_
          have H := Option.some.inj H
          subst H
          exact ex_iret (M := 299) (Or.inr ⟨rfl, by decide⟩)
      rw [if_neg h164] at H
      by_cases h170 : ((xs x3.toNatClampNeg) &&& 63) = 28
      · rw [if_pos h170] at H
        refine ex_table (off := 1527) (ct := am_c299_1560) (by rw [h170]; decide) rfl ?_
        refine ex_aload_n rfl ?_
        refine ex_aload_n rfl ?_
        refine ex_iload_n rfl ?_
        refine ex_iconst (v := 1) (by decide) ?_
        refine ex_iadd ?_
        obtain ⟨hj, H⟩ := am_ck_el H
        refine ex_iald (k := Lg) (v := xs (x3 + 1).toNatClampNeg) rfl hj rfl ?_
        obtain ⟨v171, S172, hp, H⟩ := am_b2_el H
        refine ex_callV rfl rfl (Nat.le_of_ble_eq_true rfl) (Nat.le_of_ble_eq_true rfl) rfl (r171 (by omega) hp) rfl ?_
        refine ex_aload_n rfl ?_
        refine ex_aload_n rfl ?_
        refine ex_iload_n rfl ?_
        refine ex_iconst (v := 1) (by decide) ?_
        refine ex_iadd ?_
        obtain ⟨hj, H⟩ := am_ck_el H
        refine ex_iald (k := Lg) (v := xs (x3 + 1).toNatClampNeg) rfl hj rfl ?_
        obtain ⟨v173, S174, hp, H⟩ := am_b2_el H
        refine ex_callV rfl rfl (Nat.le_of_ble_eq_true rfl) (Nat.le_of_ble_eq_true rfl) rfl (r269 (by omega) hp) rfl ?_
        by_cases h175 : v171 = v173
        · rw [if_pos h175] at H
          refine ex_icmp_eq_j (ct := am_c299_2179) h175 rfl ?_
          exact e299_2179 hd (fun x3 S q H => ih x3 S q H) H
        · rw [if_neg h175] at H
          refine ex_icmp_eq_f h175 ?_
          refine ex_iconst (v := 0) (by decide) ?_
          have H := Option.some.inj H
          subst H
          exact ex_iret (M := 299) (Or.inr ⟨rfl, by decide⟩)
      rw [if_neg h170] at H
      by_cases h176 : ((xs x3.toNatClampNeg) &&& 63) = 29
      · rw [if_pos h176] at H
        refine ex_table (off := 1550) (ct := am_c299_1583) (by rw [h176]; decide) rfl ?_
        refine ex_aload_n rfl ?_
        refine ex_aload_n rfl ?_
        refine ex_iload_n rfl ?_
        refine ex_iconst (v := 1) (by decide) ?_
        refine ex_iadd ?_
        obtain ⟨hj, H⟩ := am_ck_el H
        refine ex_iald (k := Lg) (v := xs (x3 + 1).toNatClampNeg) rfl hj rfl ?_
        refine ex_aload_n rfl ?_
        refine ex_iload_n rfl ?_
        refine ex_iconst (v := 2) (by decide) ?_
        refine ex_iadd ?_
        obtain ⟨hj, H⟩ := am_ck_el H
        refine ex_iald (k := Lg) (v := xs (x3 + 2).toNatClampNeg) rfl hj rfl ?_
        obtain ⟨v177, S178, hp, H⟩ := am_b2_el H
        refine ex_callV rfl rfl (Nat.le_of_ble_eq_true rfl) (Nat.le_of_ble_eq_true rfl) rfl (r172 (by omega) hp) rfl ?_
        refine ex_aload_n rfl ?_
        refine ex_aload_n rfl ?_
        refine ex_iload_n rfl ?_
        refine ex_iconst (v := 1) (by decide) ?_
        refine ex_iadd ?_
        obtain ⟨hj, H⟩ := am_ck_el H
        refine ex_iald (k := Lg) (v := xs (x3 + 1).toNatClampNeg) rfl hj rfl ?_
        refine ex_aload_n rfl ?_
        refine ex_iload_n rfl ?_
        refine ex_iconst (v := 2) (by decide) ?_
        refine ex_iadd ?_
        obtain ⟨hj, H⟩ := am_ck_el H
        refine ex_iald (k := Lg) (v := xs (x3 + 2).toNatClampNeg) rfl hj rfl ?_
        obtain ⟨v179, S180, hp, H⟩ := am_b2_el H
        refine ex_callV rfl rfl (Nat.le_of_ble_eq_true rfl) (Nat.le_of_ble_eq_true rfl) rfl (r270 (by omega) hp) rfl ?_
        by_cases h181 : v177 = v179
        · rw [if_pos h181] at H
          refine ex_icmp_eq_j (ct := am_c299_2179) h181 rfl ?_
          exact e299_2179 hd (fun x3 S q H => ih x3 S q H) H
        · rw [if_neg h181] at H
          refine ex_icmp_eq_f h181 ?_
          refine ex_iconst (v := 0) (by decide) ?_
          have H := Option.some.inj H
          subst H
          exact ex_iret (M := 299) (Or.inr ⟨rfl, by decide⟩)
      rw [if_neg h176] at H
      by_cases h182 : ((xs x3.toNatClampNeg) &&& 63) = 30
      · rw [if_pos h182] at H
        refine ex_table (off := 1583) (ct := am_c299_1616) (by rw [h182]; decide) rfl ?_
        refine ex_aload_n rfl ?_
        refine ex_aload_n rfl ?_
        refine ex_iload_n rfl ?_
        refine ex_iconst (v := 1) (by decide) ?_
        refine ex_iadd ?_
        obtain ⟨hj, H⟩ := am_ck_el H
        refine ex_iald (k := Lg) (v := xs (x3 + 1).toNatClampNeg) rfl hj rfl ?_
        refine ex_aload_n rfl ?_
        refine ex_iload_n rfl ?_
        refine ex_iconst (v := 2) (by decide) ?_
        refine ex_iadd ?_
        obtain ⟨hj, H⟩ := am_ck_el H
        refine ex_iald (k := Lg) (v := xs (x3 + 2).toNatClampNeg) rfl hj rfl ?_
        refine ex_aload_n rfl ?_
        refine ex_iload_n rfl ?_
        refine ex_iconst (v := 3) (by decide) ?_
        refine ex_iadd ?_
        obtain ⟨hj, H⟩ := am_ck_el H
        refine ex_iald (k := Lg) (v := xs (x3 + 3).toNatClampNeg) rfl hj rfl ?_
        obtain ⟨v183, S184, hp, H⟩ := am_b2_el H
        refine ex_callV rfl rfl (Nat.le_of_ble_eq_true rfl) (Nat.le_of_ble_eq_true rfl) rfl (r173 (by omega) hp) rfl ?_
        refine ex_aload_n rfl ?_
        refine ex_aload_n rfl ?_
        refine ex_iload_n rfl ?_
        refine ex_iconst (v := 1) (by decide) ?_
        refine ex_iadd ?_
        obtain ⟨hj, H⟩ := am_ck_el H
        refine ex_iald (k := Lg) (v := xs (x3 + 1).toNatClampNeg) rfl hj rfl ?_
        refine ex_aload_n rfl ?_
        refine ex_iload_n rfl ?_
        refine ex_iconst (v := 2) (by decide) ?_
        refine ex_iadd ?_
        obtain ⟨hj, H⟩ := am_ck_el H
        refine ex_iald (k := Lg) (v := xs (x3 + 2).toNatClampNeg) rfl hj rfl ?_
        refine ex_aload_n rfl ?_
        refine ex_iload_n rfl ?_
        refine ex_iconst (v := 3) (by decide) ?_
        refine ex_iadd ?_
        obtain ⟨hj, H⟩ := am_ck_el H
        refine ex_iald (k := Lg) (v := xs (x3 + 3).toNatClampNeg) rfl hj rfl ?_
        obtain ⟨v185, S186, hp, H⟩ := am_b2_el H
        refine ex_callV rfl rfl (Nat.le_of_ble_eq_true rfl) (Nat.le_of_ble_eq_true rfl) rfl (r271 (by omega) hp) rfl ?_
        by_cases h187 : v183 = v185
        · rw [if_pos h187] at H
          refine ex_icmp_eq_j (ct := am_c299_2179) h187 rfl ?_
          exact e299_2179 hd (fun x3 S q H => ih x3 S q H) H
        · rw [if_neg h187] at H
          refine ex_icmp_eq_f h187 ?_
          refine ex_iconst (v := 0) (by decide) ?_
          have H := Option.some.inj H
          subst H
          exact ex_iret (M := 299) (Or.inr ⟨rfl, by decide⟩)
      rw [if_neg h182] at H
      by_cases h188 : ((xs x3.toNatClampNeg) &&& 63) = 31
      · rw [if_pos h188] at H
        refine ex_table (off := 1626) (ct := am_c299_1659) (by rw [h188]; decide) rfl ?_
        refine ex_aload_n rfl ?_
        refine ex_aload_n rfl ?_
        refine ex_iload_n rfl ?_
        refine ex_iconst (v := 1) (by decide) ?_
        refine ex_iadd ?_
        obtain ⟨hj, H⟩ := am_ck_el H
        refine ex_iald (k := Lg) (v := xs (x3 + 1).toNatClampNeg) rfl hj rfl ?_
        refine ex_aload_n rfl ?_
        refine ex_iload_n rfl ?_
        refine ex_iconst (v := 2) (by decide) ?_
        refine ex_iadd ?_
        obtain ⟨hj, H⟩ := am_ck_el H
        refine ex_iald (k := Lg) (v := xs (x3 + 2).toNatClampNeg) rfl hj rfl ?_
        refine ex_aload_n rfl ?_
        refine ex_iload_n rfl ?_
        refine ex_iconst (v := 3) (by decide) ?_
        refine ex_iadd ?_
        obtain ⟨hj, H⟩ := am_ck_el H
        refine ex_iald (k := Lg) (v := xs (x3 + 3).toNatClampNeg) rfl hj rfl ?_
        refine ex_aload_n rfl ?_
        refine ex_iload_n rfl ?_
        refine ex_iconst (v := 4) (by decide) ?_
        refine ex_iadd ?_
        obtain ⟨hj, H⟩ := am_ck_el H
        refine ex_iald (k := Lg) (v := xs (x3 + 4).toNatClampNeg) rfl hj rfl ?_
        obtain ⟨v189, S190, hp, H⟩ := am_b2_el H
        refine ex_callV rfl rfl (Nat.le_of_ble_eq_true rfl) (Nat.le_of_ble_eq_true rfl) rfl (r174 (by omega) hp) rfl ?_
        refine ex_aload_n rfl ?_
        refine ex_aload_n rfl ?_
        refine ex_iload_n rfl ?_
        refine ex_iconst (v := 1) (by decide) ?_
        refine ex_iadd ?_
        obtain ⟨hj, H⟩ := am_ck_el H
        refine ex_iald (k := Lg) (v := xs (x3 + 1).toNatClampNeg) rfl hj rfl ?_
        refine ex_aload_n rfl ?_
        refine ex_iload_n rfl ?_
        refine ex_iconst (v := 2) (by decide) ?_
        refine ex_iadd ?_
        obtain ⟨hj, H⟩ := am_ck_el H
        refine ex_iald (k := Lg) (v := xs (x3 + 2).toNatClampNeg) rfl hj rfl ?_
        refine ex_aload_n rfl ?_
        refine ex_iload_n rfl ?_
        refine ex_iconst (v := 3) (by decide) ?_
        refine ex_iadd ?_
        obtain ⟨hj, H⟩ := am_ck_el H
        refine ex_iald (k := Lg) (v := xs (x3 + 3).toNatClampNeg) rfl hj rfl ?_
        refine ex_aload_n rfl ?_
        refine ex_iload_n rfl ?_
        refine ex_iconst (v := 4) (by decide) ?_
        refine ex_iadd ?_
        obtain ⟨hj, H⟩ := am_ck_el H
        refine ex_iald (k := Lg) (v := xs (x3 + 4).toNatClampNeg) rfl hj rfl ?_
        obtain ⟨v191, S192, hp, H⟩ := am_b2_el H
        refine ex_callV rfl rfl (Nat.le_of_ble_eq_true rfl) (Nat.le_of_ble_eq_true rfl) rfl (r272 (by omega) hp) rfl ?_
        by_cases h193 : v189 = v191
        · rw [if_pos h193] at H
          refine ex_icmp_eq_j (ct := am_c299_2179) h193 rfl ?_
          exact e299_2179 hd (fun x3 S q H => ih x3 S q H) H
        · rw [if_neg h193] at H
          refine ex_icmp_eq_f h193 ?_
          refine ex_iconst (v := 0) (by decide) ?_
          have H := Option.some.inj H
          subst H
          exact ex_iret (M := 299) (Or.inr ⟨rfl, by decide⟩)
      rw [if_neg h188] at H
      by_cases h194 : ((xs x3.toNatClampNeg) &&& 63) = 32
      · rw [if_pos h194] at H
        refine ex_table (off := 1679) (ct := am_c299_1712) (by rw [h194]; decide) rfl ?_
        refine ex_aload_n rfl ?_
        refine ex_aload_n rfl ?_
        refine ex_iload_n rfl ?_
        refine ex_iconst (v := 1) (by decide) ?_
        refine ex_iadd ?_
        obtain ⟨hj, H⟩ := am_ck_el H
        refine ex_iald (k := Lg) (v := xs (x3 + 1).toNatClampNeg) rfl hj rfl ?_
        refine ex_aload_n rfl ?_
        refine ex_iload_n rfl ?_
        refine ex_iconst (v := 2) (by decide) ?_
        refine ex_iadd ?_
        obtain ⟨hj, H⟩ := am_ck_el H
        refine ex_iald (k := Lg) (v := xs (x3 + 2).toNatClampNeg) rfl hj rfl ?_
        refine ex_aload_n rfl ?_
        refine ex_iload_n rfl ?_
        refine ex_iconst (v := 3) (by decide) ?_
        refine ex_iadd ?_
        obtain ⟨hj, H⟩ := am_ck_el H
        refine ex_iald (k := Lg) (v := xs (x3 + 3).toNatClampNeg) rfl hj rfl ?_
        obtain ⟨v195, S196, hp, H⟩ := am_b2_el H
        refine ex_callV rfl rfl (Nat.le_of_ble_eq_true rfl) (Nat.le_of_ble_eq_true rfl) rfl (r175 (by omega) hp) rfl ?_
        refine ex_aload_n rfl ?_
        refine ex_aload_n rfl ?_
        refine ex_iload_n rfl ?_
        refine ex_iconst (v := 1) (by decide) ?_
        refine ex_iadd ?_
        obtain ⟨hj, H⟩ := am_ck_el H
        refine ex_iald (k := Lg) (v := xs (x3 + 1).toNatClampNeg) rfl hj rfl ?_
        refine ex_aload_n rfl ?_
        refine ex_iload_n rfl ?_
        refine ex_iconst (v := 2) (by decide) ?_
        refine ex_iadd ?_
        obtain ⟨hj, H⟩ := am_ck_el H
        refine ex_iald (k := Lg) (v := xs (x3 + 2).toNatClampNeg) rfl hj rfl ?_
        refine ex_aload_n rfl ?_
        refine ex_iload_n rfl ?_
        refine ex_iconst (v := 3) (by decide) ?_
        refine ex_iadd ?_
        obtain ⟨hj, H⟩ := am_ck_el H
        refine ex_iald (k := Lg) (v := xs (x3 + 3).toNatClampNeg) rfl hj rfl ?_
        obtain ⟨v197, S198, hp, H⟩ := am_b2_el H
        refine ex_callV rfl rfl (Nat.le_of_ble_eq_true rfl) (Nat.le_of_ble_eq_true rfl) rfl (r273 (by omega) hp) rfl ?_
        by_cases h199 : v195 = v197
        · rw [if_pos h199] at H
          refine ex_icmp_eq_j (ct := am_c299_2179) h199 rfl ?_
          exact e299_2179 hd (fun x3 S q H => ih x3 S q H) H
        · rw [if_neg h199] at H
          refine ex_icmp_eq_f h199 ?_
          refine ex_iconst (v := 0) (by decide) ?_
          have H := Option.some.inj H
          subst H
          exact ex_iret (M := 299) (Or.inr ⟨rfl, by decide⟩)
      rw [if_neg h194] at H
      by_cases h200 : ((xs x3.toNatClampNeg) &&& 63) = 33
      · rw [if_pos h200] at H
        refine ex_table (off := 1722) (ct := am_c299_1755) (by rw [h200]; decide) rfl ?_
        refine ex_aload_n rfl ?_
        refine ex_aload_n rfl ?_
        refine ex_iload_n rfl ?_
        refine ex_iconst (v := 1) (by decide) ?_
        refine ex_iadd ?_
        obtain ⟨hj, H⟩ := am_ck_el H
        refine ex_iald (k := Lg) (v := xs (x3 + 1).toNatClampNeg) rfl hj rfl ?_
        obtain ⟨v201, S202, hp, H⟩ := am_b2_el H
        refine ex_callV rfl rfl (Nat.le_of_ble_eq_true rfl) (Nat.le_of_ble_eq_true rfl) rfl (r176 (by omega) hp) rfl ?_
        refine ex_aload_n rfl ?_
        refine ex_aload_n rfl ?_
        refine ex_iload_n rfl ?_
        refine ex_iconst (v := 1) (by decide) ?_
        refine ex_iadd ?_
        obtain ⟨hj, H⟩ := am_ck_el H
        refine ex_iald (k := Lg) (v := xs (x3 + 1).toNatClampNeg) rfl hj rfl ?_
        obtain ⟨v203, S204, hp, H⟩ := am_b2_el H
        refine ex_callV rfl rfl (Nat.le_of_ble_eq_true rfl) (Nat.le_of_ble_eq_true rfl) rfl (r274 (by omega) hp) rfl ?_
        by_cases h205 : v201 = v203
        · rw [if_pos h205] at H
          refine ex_icmp_eq_j (ct := am_c299_2179) h205 rfl ?_
          exact e299_2179 hd (fun x3 S q H => ih x3 S q H) H
        · rw [if_neg h205] at H
          refine ex_icmp_eq_f h205 ?_
          refine ex_iconst (v := 0) (by decide) ?_
          have H := Option.some.inj H
          subst H
          exact ex_iret (M := 299) (Or.inr ⟨rfl, by decide⟩)
      rw [if_neg h200] at H
      by_cases h206 : ((xs x3.toNatClampNeg) &&& 63) = 34
      · rw [if_pos h206] at H
        refine ex_table (off := 1745) (ct := am_c299_1778) (by rw [h206]; decide) rfl ?_
        refine ex_aload_n rfl ?_
        refine ex_aload_n rfl ?_
        refine ex_iload_n rfl ?_
        refine ex_iconst (v := 1) (by decide) ?_
        refine ex_iadd ?_
        obtain ⟨hj, H⟩ := am_ck_el H
        refine ex_iald (k := Lg) (v := xs (x3 + 1).toNatClampNeg) rfl hj rfl ?_
        obtain ⟨v207, S208, hp, H⟩ := am_b2_el H
        refine ex_callV rfl rfl (Nat.le_of_ble_eq_true rfl) (Nat.le_of_ble_eq_true rfl) rfl (r177 (by omega) hp) rfl ?_
        refine ex_aload_n rfl ?_
        refine ex_aload_n rfl ?_
        refine ex_iload_n rfl ?_
        refine ex_iconst (v := 1) (by decide) ?_
        refine ex_iadd ?_
        obtain ⟨hj, H⟩ := am_ck_el H
        refine ex_iald (k := Lg) (v := xs (x3 + 1).toNatClampNeg) rfl hj rfl ?_
        obtain ⟨v209, S210, hp, H⟩ := am_b2_el H
        refine ex_callV rfl rfl (Nat.le_of_ble_eq_true rfl) (Nat.le_of_ble_eq_true rfl) rfl (r275 (by omega) hp) rfl ?_
        by_cases h211 : v207 = v209
        · rw [if_pos h211] at H
          refine ex_icmp_eq_j (ct := am_c299_2179) h211 rfl ?_
          exact e299_2179 hd (fun x3 S q H => ih x3 S q H) H
        · rw [if_neg h211] at H
          refine ex_icmp_eq_f h211 ?_
          refine ex_iconst (v := 0) (by decide) ?_
          have H := Option.some.inj H
          subst H
          exact ex_iret (M := 299) (Or.inr ⟨rfl, by decide⟩)
      rw [if_neg h206] at H
      by_cases h212 : ((xs x3.toNatClampNeg) &&& 63) = 35
      · rw [if_pos h212] at H
        refine ex_table (off := 1768) (ct := am_c299_1801) (by rw [h212]; decide) rfl ?_
        refine ex_aload_n rfl ?_
        refine ex_aload_n rfl ?_
        refine ex_iload_n rfl ?_
        refine ex_iconst (v := 1) (by decide) ?_
        refine ex_iadd ?_
        obtain ⟨hj, H⟩ := am_ck_el H
        refine ex_iald (k := Lg) (v := xs (x3 + 1).toNatClampNeg) rfl hj rfl ?_
        refine ex_aload_n rfl ?_
        refine ex_iload_n rfl ?_
        refine ex_iconst (v := 2) (by decide) ?_
        refine ex_iadd ?_
        obtain ⟨hj, H⟩ := am_ck_el H
        refine ex_iald (k := Lg) (v := xs (x3 + 2).toNatClampNeg) rfl hj rfl ?_
        obtain ⟨v213, S214, hp, H⟩ := am_b2_el H
        refine ex_callV rfl rfl (Nat.le_of_ble_eq_true rfl) (Nat.le_of_ble_eq_true rfl) rfl (r178 (by omega) hp) rfl ?_
        refine ex_aload_n rfl ?_
        refine ex_aload_n rfl ?_
        refine ex_iload_n rfl ?_
        refine ex_iconst (v := 1) (by decide) ?_
        refine ex_iadd ?_
        obtain ⟨hj, H⟩ := am_ck_el H
        refine ex_iald (k := Lg) (v := xs (x3 + 1).toNatClampNeg) rfl hj rfl ?_
        refine ex_aload_n rfl ?_
        refine ex_iload_n rfl ?_
        refine ex_iconst (v := 2) (by decide) ?_
        refine ex_iadd ?_
        obtain ⟨hj, H⟩ := am_ck_el H
        refine ex_iald (k := Lg) (v := xs (x3 + 2).toNatClampNeg) rfl hj rfl ?_
        obtain ⟨v215, S216, hp, H⟩ := am_b2_el H
        refine ex_callV rfl rfl (Nat.le_of_ble_eq_true rfl) (Nat.le_of_ble_eq_true rfl) rfl (r276 (by omega) hp) rfl ?_
        by_cases h217 : v213 = v215
        · rw [if_pos h217] at H
          refine ex_icmp_eq_j (ct := am_c299_2179) h217 rfl ?_
          exact e299_2179 hd (fun x3 S q H => ih x3 S q H) H
        · rw [if_neg h217] at H
          refine ex_icmp_eq_f h217 ?_
          refine ex_iconst (v := 0) (by decide) ?_
          have H := Option.some.inj H
          subst H
          exact ex_iret (M := 299) (Or.inr ⟨rfl, by decide⟩)
      rw [if_neg h212] at H
      by_cases h218 : ((xs x3.toNatClampNeg) &&& 63) = 36
      · rw [if_pos h218] at H
        refine ex_table (off := 1801) (ct := am_c299_1834) (by rw [h218]; decide) rfl ?_
        refine ex_aload_n rfl ?_
        refine ex_aload_n rfl ?_
        refine ex_iload_n rfl ?_
        refine ex_iconst (v := 1) (by decide) ?_
        refine ex_iadd ?_
        obtain ⟨hj, H⟩ := am_ck_el H
        refine ex_iald (k := Lg) (v := xs (x3 + 1).toNatClampNeg) rfl hj rfl ?_
        refine ex_aload_n rfl ?_
        refine ex_iload_n rfl ?_
        refine ex_iconst (v := 2) (by decide) ?_
        refine ex_iadd ?_
        obtain ⟨hj, H⟩ := am_ck_el H
        refine ex_iald (k := Lg) (v := xs (x3 + 2).toNatClampNeg) rfl hj rfl ?_
        obtain ⟨v219, S220, hp, H⟩ := am_b2_el H
        refine ex_callV rfl rfl (Nat.le_of_ble_eq_true rfl) (Nat.le_of_ble_eq_true rfl) rfl (r179 (by omega) hp) rfl ?_
        refine ex_aload_n rfl ?_
        refine ex_aload_n rfl ?_
        refine ex_iload_n rfl ?_
        refine ex_iconst (v := 1) (by decide) ?_
        refine ex_iadd ?_
        obtain ⟨hj, H⟩ := am_ck_el H
        refine ex_iald (k := Lg) (v := xs (x3 + 1).toNatClampNeg) rfl hj rfl ?_
        refine ex_aload_n rfl ?_
        refine ex_iload_n rfl ?_
        refine ex_iconst (v := 2) (by decide) ?_
        refine ex_iadd ?_
        obtain ⟨hj, H⟩ := am_ck_el H
        refine ex_iald (k := Lg) (v := xs (x3 + 2).toNatClampNeg) rfl hj rfl ?_
        obtain ⟨v221, S222, hp, H⟩ := am_b2_el H
        refine ex_callV rfl rfl (Nat.le_of_ble_eq_true rfl) (Nat.le_of_ble_eq_true rfl) rfl (r277 (by omega) hp) rfl ?_
        by_cases h223 : v219 = v221
        · rw [if_pos h223] at H
          refine ex_icmp_eq_j (ct := am_c299_2179) h223 rfl ?_
          exact e299_2179 hd (fun x3 S q H => ih x3 S q H) H
        · rw [if_neg h223] at H
          refine ex_icmp_eq_f h223 ?_
          refine ex_iconst (v := 0) (by decide) ?_
          have H := Option.some.inj H
          subst H
          exact ex_iret (M := 299) (Or.inr ⟨rfl, by decide⟩)
      rw [if_neg h218] at H
      by_cases h224 : ((xs x3.toNatClampNeg) &&& 63) = 37
      · rw [if_pos h224] at H
        refine ex_table (off := 1834) (ct := am_c299_1867) (by rw [h224]; decide) rfl ?_
        refine ex_aload_n rfl ?_
        refine ex_aload_n rfl ?_
        refine ex_iload_n rfl ?_
        refine ex_iconst (v := 1) (by decide) ?_
        refine ex_iadd ?_
        obtain ⟨hj, H⟩ := am_ck_el H
        refine ex_iald (k := Lg) (v := xs (x3 + 1).toNatClampNeg) rfl hj rfl ?_
        refine ex_aload_n rfl ?_
        refine ex_iload_n rfl ?_
        refine ex_iconst (v := 2) (by decide) ?_
        refine ex_iadd ?_
        obtain ⟨hj, H⟩ := am_ck_el H
        refine ex_iald (k := Lg) (v := xs (x3 + 2).toNatClampNeg) rfl hj rfl ?_
        obtain ⟨v225, S226, hp, H⟩ := am_b2_el H
        refine ex_callV rfl rfl (Nat.le_of_ble_eq_true rfl) (Nat.le_of_ble_eq_true rfl) rfl (r180 (by omega) hp) rfl ?_
        refine ex_aload_n rfl ?_
        refine ex_aload_n rfl ?_
        refine ex_iload_n rfl ?_
        refine ex_iconst (v := 1) (by decide) ?_
        refine ex_iadd ?_
        obtain ⟨hj, H⟩ := am_ck_el H
        refine ex_iald (k := Lg) (v := xs (x3 + 1).toNatClampNeg) rfl hj rfl ?_
        refine ex_aload_n rfl ?_
        refine ex_iload_n rfl ?_
        refine ex_iconst (v := 2) (by decide) ?_
        refine ex_iadd ?_
        obtain ⟨hj, H⟩ := am_ck_el H
        refine ex_iald (k := Lg) (v := xs (x3 + 2).toNatClampNeg) rfl hj rfl ?_
        obtain ⟨v227, S228, hp, H⟩ := am_b2_el H
        refine ex_callV rfl rfl (Nat.le_of_ble_eq_true rfl) (Nat.le_of_ble_eq_true rfl) rfl (r278 (by omega) hp) rfl ?_
        by_cases h229 : v225 = v227
        · rw [if_pos h229] at H
          refine ex_icmp_eq_j (ct := am_c299_2179) h229 rfl ?_
          exact e299_2179 hd (fun x3 S q H => ih x3 S q H) H
        · rw [if_neg h229] at H
          refine ex_icmp_eq_f h229 ?_
          refine ex_iconst (v := 0) (by decide) ?_
          have H := Option.some.inj H
          subst H
          exact ex_iret (M := 299) (Or.inr ⟨rfl, by decide⟩)
      rw [if_neg h224] at H
      by_cases h230 : ((xs x3.toNatClampNeg) &&& 63) = 38
      · rw [if_pos h230] at H
        refine ex_table (off := 1867) (ct := am_c299_1900) (by rw [h230]; decide) rfl ?_
        refine ex_aload_n rfl ?_
        refine ex_aload_n rfl ?_
        refine ex_iload_n rfl ?_
        refine ex_iconst (v := 1) (by decide) ?_
        refine ex_iadd ?_
        obtain ⟨hj, H⟩ := am_ck_el H
        refine ex_iald (k := Lg) (v := xs (x3 + 1).toNatClampNeg) rfl hj rfl ?_
        obtain ⟨v231, S232, hp, H⟩ := am_b2_el H
        refine ex_callV rfl rfl (Nat.le_of_ble_eq_true rfl) (Nat.le_of_ble_eq_true rfl) rfl (r181 (by omega) hp) rfl ?_
        refine ex_aload_n rfl ?_
        refine ex_aload_n rfl ?_
        refine ex_iload_n rfl ?_
        refine ex_iconst (v := 1) (by decide) ?_
        refine ex_iadd ?_
        obtain ⟨hj, H⟩ := am_ck_el H
        refine ex_iald (k := Lg) (v := xs (x3 + 1).toNatClampNeg) rfl hj rfl ?_
        obtain ⟨v233, S234, hp, H⟩ := am_b2_el H
        refine ex_callV rfl rfl (Nat.le_of_ble_eq_true rfl) (Nat.le_of_ble_eq_true rfl) rfl (r279 (by omega) hp) rfl ?_
        by_cases h235 : v231 = v233
        · rw [if_pos h235] at H
          refine ex_icmp_eq_j (ct := am_c299_2179) h235 rfl ?_
          exact e299_2179 hd (fun x3 S q H => ih x3 S q H) H
        · rw [if_neg h235] at H
          refine ex_icmp_eq_f h235 ?_
          refine ex_iconst (v := 0) (by decide) ?_
          have H := Option.some.inj H
          subst H
          exact ex_iret (M := 299) (Or.inr ⟨rfl, by decide⟩)
      rw [if_neg h230] at H
      by_cases h236 : ((xs x3.toNatClampNeg) &&& 63) = 39
      · rw [if_pos h236] at H
        refine ex_table (off := 1890) (ct := am_c299_1923) (by rw [h236]; decide) rfl ?_
        refine ex_aload_n rfl ?_
        refine ex_aload_n rfl ?_
        refine ex_iload_n rfl ?_
        refine ex_iconst (v := 1) (by decide) ?_
        refine ex_iadd ?_
        obtain ⟨hj, H⟩ := am_ck_el H
        refine ex_iald (k := Lg) (v := xs (x3 + 1).toNatClampNeg) rfl hj rfl ?_
        obtain ⟨v237, S238, hp, H⟩ := am_b2_el H
        refine ex_callV rfl rfl (Nat.le_of_ble_eq_true rfl) (Nat.le_of_ble_eq_true rfl) rfl (r182 (by omega) hp) rfl ?_
        refine ex_aload_n rfl ?_
        refine ex_aload_n rfl ?_
        refine ex_iload_n rfl ?_
        refine ex_iconst (v := 1) (by decide) ?_
        refine ex_iadd ?_
        obtain ⟨hj, H⟩ := am_ck_el H
        refine ex_iald (k := Lg) (v := xs (x3 + 1).toNatClampNeg) rfl hj rfl ?_
        obtain ⟨v239, S240, hp, H⟩ := am_b2_el H
        refine ex_callV rfl rfl (Nat.le_of_ble_eq_true rfl) (Nat.le_of_ble_eq_true rfl) rfl (r281 (by omega) hp) rfl ?_
        by_cases h241 : v237 = v239
        · rw [if_pos h241] at H
          refine ex_icmp_eq_j (ct := am_c299_2179) h241 rfl ?_
          exact e299_2179 hd (fun x3 S q H => ih x3 S q H) H
        · rw [if_neg h241] at H
          refine ex_icmp_eq_f h241 ?_
          refine ex_iconst (v := 0) (by decide) ?_
          have H := Option.some.inj H
          subst H
          exact ex_iret (M := 299) (Or.inr ⟨rfl, by decide⟩)
      rw [if_neg h236] at H
      by_cases h242 : ((xs x3.toNatClampNeg) &&& 63) = 40
      · rw [if_pos h242] at H
        refine ex_table (off := 1913) (ct := am_c299_1946) (by rw [h242]; decide) rfl ?_
        refine ex_aload_n rfl ?_
        obtain ⟨v243, S244, hp, H⟩ := am_b2_el H
        refine ex_callV rfl rfl (Nat.le_of_ble_eq_true rfl) (Nat.le_of_ble_eq_true rfl) rfl (r183 (by omega) hp) rfl ?_
        refine ex_aload_n rfl ?_
        obtain ⟨v245, S246, hp, H⟩ := am_b2_el H
        refine ex_callV rfl rfl (Nat.le_of_ble_eq_true rfl) (Nat.le_of_ble_eq_true rfl) rfl (r282 (by omega) hp) rfl ?_
        by_cases h247 : v243 = v245
        · rw [if_pos h247] at H
          refine ex_icmp_eq_j (ct := am_c299_2179) h247 rfl ?_
          exact e299_2179 hd (fun x3 S q H => ih x3 S q H) H
        · rw [if_neg h247] at H
          refine ex_icmp_eq_f h247 ?_
          refine ex_iconst (v := 0) (by decide) ?_
          have H := Option.some.inj H
          subst H
          exact ex_iret (M := 299) (Or.inr ⟨rfl, by decide⟩)
      rw [if_neg h242] at H
      by_cases h248 : ((xs x3.toNatClampNeg) &&& 63) = 41
      · rw [if_pos h248] at H
        refine ex_table (off := 1926) (ct := am_c299_1959) (by rw [h248]; decide) rfl ?_
        refine ex_aload_n rfl ?_
        refine ex_aload_n rfl ?_
        refine ex_iload_n rfl ?_
        refine ex_iconst (v := 1) (by decide) ?_
        refine ex_iadd ?_
        obtain ⟨hj, H⟩ := am_ck_el H
        refine ex_iald (k := Lg) (v := xs (x3 + 1).toNatClampNeg) rfl hj rfl ?_
        obtain ⟨v249, S250, hp, H⟩ := am_b2_el H
        refine ex_callV rfl rfl (Nat.le_of_ble_eq_true rfl) (Nat.le_of_ble_eq_true rfl) rfl (r184 (by omega) hp) rfl ?_
        refine ex_aload_n rfl ?_
        refine ex_aload_n rfl ?_
        refine ex_iload_n rfl ?_
        refine ex_iconst (v := 1) (by decide) ?_
        refine ex_iadd ?_
        obtain ⟨hj, H⟩ := am_ck_el H
        refine ex_iald (k := Lg) (v := xs (x3 + 1).toNatClampNeg) rfl hj rfl ?_
        obtain ⟨v251, S252, hp, H⟩ := am_b2_el H
        refine ex_callV rfl rfl (Nat.le_of_ble_eq_true rfl) (Nat.le_of_ble_eq_true rfl) rfl (r283 (by omega) hp) rfl ?_
        by_cases h253 : v249 = v251
        · rw [if_pos h253] at H
          refine ex_icmp_eq_j (ct := am_c299_2179) h253 rfl ?_
          exact e299_2179 hd (fun x3 S q H => ih x3 S q H) H
        · rw [if_neg h253] at H
          refine ex_icmp_eq_f h253 ?_
          refine ex_iconst (v := 0) (by decide) ?_
          have H := Option.some.inj H
          subst H
          exact ex_iret (M := 299) (Or.inr ⟨rfl, by decide⟩)
      rw [if_neg h248] at H
      by_cases h254 : ((xs x3.toNatClampNeg) &&& 63) = 42
      · rw [if_pos h254] at H
        refine ex_table (off := 1949) (ct := am_c299_1982) (by rw [h254]; decide) rfl ?_
        refine ex_aload_n rfl ?_
        obtain ⟨v255, S256, hp, H⟩ := am_b2_el H
        refine ex_callV rfl rfl (Nat.le_of_ble_eq_true rfl) (Nat.le_of_ble_eq_true rfl) rfl (r185 (by omega) hp) rfl ?_
        refine ex_aload_n rfl ?_
        obtain ⟨v257, S258, hp, H⟩ := am_b2_el H
        refine ex_callV rfl rfl (Nat.le_of_ble_eq_true rfl) (Nat.le_of_ble_eq_true rfl) rfl (r287 (by omega) hp) rfl ?_
        by_cases h259 : v255 = v257
        · rw [if_pos h259] at H
          refine ex_icmp_eq_j (ct := am_c299_2179) h259 rfl ?_
          exact e299_2179 hd (fun x3 S q H => ih x3 S q H) H
        · rw [if_neg h259] at H
          refine ex_icmp_eq_f h259 ?_
          refine ex_iconst (v := 0) (by decide) ?_
          have H := Option.some.inj H
          subst H
          exact ex_iret (M := 299) (Or.inr ⟨rfl, by decide⟩)
      rw [if_neg h254] at H
      by_cases h260 : ((xs x3.toNatClampNeg) &&& 63) = 43
      · rw [if_pos h260] at H
        refine ex_table (off := 1962) (ct := am_c299_1995) (by rw [h260]; decide) rfl ?_
        refine ex_aload_n rfl ?_
        refine ex_aload_n rfl ?_
        refine ex_iload_n rfl ?_
        refine ex_iconst (v := 1) (by decide) ?_
        refine ex_iadd ?_
        obtain ⟨hj, H⟩ := am_ck_el H
        refine ex_iald (k := Lg) (v := xs (x3 + 1).toNatClampNeg) rfl hj rfl ?_
        obtain ⟨v261, S262, hp, H⟩ := am_b2_el H
        refine ex_callV rfl rfl (Nat.le_of_ble_eq_true rfl) (Nat.le_of_ble_eq_true rfl) rfl (r186 (by omega) hp) rfl ?_
        refine ex_aload_n rfl ?_
        refine ex_aload_n rfl ?_
        refine ex_iload_n rfl ?_
        refine ex_iconst (v := 1) (by decide) ?_
        refine ex_iadd ?_
        obtain ⟨hj, H⟩ := am_ck_el H
        refine ex_iald (k := Lg) (v := xs (x3 + 1).toNatClampNeg) rfl hj rfl ?_
        obtain ⟨v263, S264, hp, H⟩ := am_b2_el H
        refine ex_callV rfl rfl (Nat.le_of_ble_eq_true rfl) (Nat.le_of_ble_eq_true rfl) rfl (r288 (by omega) hp) rfl ?_
        by_cases h265 : v261 = v263
        · rw [if_pos h265] at H
          refine ex_icmp_eq_j (ct := am_c299_2179) h265 rfl ?_
          exact e299_2179 hd (fun x3 S q H => ih x3 S q H) H
        · rw [if_neg h265] at H
          refine ex_icmp_eq_f h265 ?_
          refine ex_iconst (v := 0) (by decide) ?_
          have H := Option.some.inj H
          subst H
          exact ex_iret (M := 299) (Or.inr ⟨rfl, by decide⟩)
      rw [if_neg h260] at H
      by_cases h266 : ((xs x3.toNatClampNeg) &&& 63) = 44
      · rw [if_pos h266] at H
        refine ex_table (off := 1985) (ct := am_c299_2018) (by rw [h266]; decide) rfl ?_
        refine ex_aload_n rfl ?_
        obtain ⟨v267, S268, hp, H⟩ := am_b2_el H
        refine ex_callV rfl rfl (Nat.le_of_ble_eq_true rfl) (Nat.le_of_ble_eq_true rfl) rfl (r187 (by omega) hp) rfl ?_
        refine ex_aload_n rfl ?_
        obtain ⟨v269, S270, hp, H⟩ := am_b2_el H
        refine ex_callV rfl rfl (Nat.le_of_ble_eq_true rfl) (Nat.le_of_ble_eq_true rfl) rfl (r289 (by omega) hp) rfl ?_
        by_cases h271 : v267 = v269
        · rw [if_pos h271] at H
          refine ex_icmp_eq_j (ct := am_c299_2179) h271 rfl ?_
          exact e299_2179 hd (fun x3 S q H => ih x3 S q H) H
        · rw [if_neg h271] at H
          refine ex_icmp_eq_f h271 ?_
          refine ex_iconst (v := 0) (by decide) ?_
          have H := Option.some.inj H
          subst H
          exact ex_iret (M := 299) (Or.inr ⟨rfl, by decide⟩)
      rw [if_neg h266] at H
      by_cases h272 : ((xs x3.toNatClampNeg) &&& 63) = 45
      · rw [if_pos h272] at H
        refine ex_table (off := 1998) (ct := am_c299_2031) (by rw [h272]; decide) rfl ?_
        refine ex_aload_n rfl ?_
        refine ex_aload_n rfl ?_
        refine ex_iload_n rfl ?_
        refine ex_iconst (v := 1) (by decide) ?_
        refine ex_iadd ?_
        obtain ⟨hj, H⟩ := am_ck_el H
        refine ex_iald (k := Lg) (v := xs (x3 + 1).toNatClampNeg) rfl hj rfl ?_
        refine ex_aload_n rfl ?_
        refine ex_iload_n rfl ?_
        refine ex_iconst (v := 2) (by decide) ?_
        refine ex_iadd ?_
        obtain ⟨hj, H⟩ := am_ck_el H
        refine ex_iald (k := Lg) (v := xs (x3 + 2).toNatClampNeg) rfl hj rfl ?_
        obtain ⟨v273, S274, hp, H⟩ := am_b2_el H
        refine ex_callV rfl rfl (Nat.le_of_ble_eq_true rfl) (Nat.le_of_ble_eq_true rfl) rfl (r188 (by omega) hp) rfl ?_
        refine ex_aload_n rfl ?_
        refine ex_aload_n rfl ?_
        refine ex_iload_n rfl ?_
        refine ex_iconst (v := 1) (by decide) ?_
        refine ex_iadd ?_
        obtain ⟨hj, H⟩ := am_ck_el H
        refine ex_iald (k := Lg) (v := xs (x3 + 1).toNatClampNeg) rfl hj rfl ?_
        refine ex_aload_n rfl ?_
        refine ex_iload_n rfl ?_
        refine ex_iconst (v := 2) (by decide) ?_
        refine ex_iadd ?_
        obtain ⟨hj, H⟩ := am_ck_el H
        refine ex_iald (k := Lg) (v := xs (x3 + 2).toNatClampNeg) rfl hj rfl ?_
        obtain ⟨v275, S276, hp, H⟩ := am_b2_el H
        refine ex_callV rfl rfl (Nat.le_of_ble_eq_true rfl) (Nat.le_of_ble_eq_true rfl) rfl (r290 (by omega) hp) rfl ?_
        by_cases h277 : v273 = v275
        · rw [if_pos h277] at H
          refine ex_icmp_eq_j (ct := am_c299_2179) h277 rfl ?_
          exact e299_2179 hd (fun x3 S q H => ih x3 S q H) H
        · rw [if_neg h277] at H
          refine ex_icmp_eq_f h277 ?_
          refine ex_iconst (v := 0) (by decide) ?_
          have H := Option.some.inj H
          subst H
          exact ex_iret (M := 299) (Or.inr ⟨rfl, by decide⟩)
      rw [if_neg h272] at H
      by_cases h278 : ((xs x3.toNatClampNeg) &&& 63) = 46
      · rw [if_pos h278] at H
        refine ex_table (off := 2031) (ct := am_c299_2064) (by rw [h278]; decide) rfl ?_
        refine ex_aload_n rfl ?_
        refine ex_aload_n rfl ?_
        refine ex_iload_n rfl ?_
        refine ex_iconst (v := 1) (by decide) ?_
        refine ex_iadd ?_
        obtain ⟨hj, H⟩ := am_ck_el H
        refine ex_iald (k := Lg) (v := xs (x3 + 1).toNatClampNeg) rfl hj rfl ?_
        obtain ⟨v279, S280, hp, H⟩ := am_b2_el H
        refine ex_callV rfl rfl (Nat.le_of_ble_eq_true rfl) (Nat.le_of_ble_eq_true rfl) rfl (r189 (by omega) hp) rfl ?_
        refine ex_aload_n rfl ?_
        refine ex_aload_n rfl ?_
        refine ex_iload_n rfl ?_
        refine ex_iconst (v := 1) (by decide) ?_
        refine ex_iadd ?_
        obtain ⟨hj, H⟩ := am_ck_el H
        refine ex_iald (k := Lg) (v := xs (x3 + 1).toNatClampNeg) rfl hj rfl ?_
        obtain ⟨v281, S282, hp, H⟩ := am_b2_el H
        refine ex_callV rfl rfl (Nat.le_of_ble_eq_true rfl) (Nat.le_of_ble_eq_true rfl) rfl (r291 (by omega) hp) rfl ?_
        by_cases h283 : v279 = v281
        · rw [if_pos h283] at H
          refine ex_icmp_eq_j (ct := am_c299_2179) h283 rfl ?_
          exact e299_2179 hd (fun x3 S q H => ih x3 S q H) H
        · rw [if_neg h283] at H
          refine ex_icmp_eq_f h283 ?_
          refine ex_iconst (v := 0) (by decide) ?_
          have H := Option.some.inj H
          subst H
          exact ex_iret (M := 299) (Or.inr ⟨rfl, by decide⟩)
      rw [if_neg h278] at H
      by_cases h284 : ((xs x3.toNatClampNeg) &&& 63) = 47
      · rw [if_pos h284] at H
        refine ex_table (off := 2054) (ct := am_c299_2087) (by rw [h284]; decide) rfl ?_
        refine ex_aload_n rfl ?_
        obtain ⟨v285, S286, hp, H⟩ := am_b2_el H
        refine ex_callV rfl rfl (Nat.le_of_ble_eq_true rfl) (Nat.le_of_ble_eq_true rfl) rfl (r190 (by omega) hp) rfl ?_
        refine ex_aload_n rfl ?_
        obtain ⟨v287, S288, hp, H⟩ := am_b2_el H
        refine ex_callV rfl rfl (Nat.le_of_ble_eq_true rfl) (Nat.le_of_ble_eq_true rfl) rfl (r204 (by omega) hp) rfl ?_
        by_cases h289 : v285 = v287
        · rw [if_pos h289] at H
          refine ex_icmp_eq_j (ct := am_c299_2179) h289 rfl ?_
          exact e299_2179 hd (fun x3 S q H => ih x3 S q H) H
        · rw [if_neg h289] at H
          refine ex_icmp_eq_f h289 ?_
          refine ex_iconst (v := 0) (by decide) ?_
          have H := Option.some.inj H
          subst H
          exact ex_iret (M := 299) (Or.inr ⟨rfl, by decide⟩)
      rw [if_neg h284] at H
      by_cases h290 : ((xs x3.toNatClampNeg) &&& 63) = 48
      · rw [if_pos h290] at H
        refine ex_table (off := 2067) (ct := am_c299_2100) (by rw [h290]; decide) rfl ?_
        refine ex_aload_n rfl ?_
        refine ex_aload_n rfl ?_
        refine ex_iload_n rfl ?_
        refine ex_iconst (v := 1) (by decide) ?_
        refine ex_iadd ?_
        obtain ⟨hj, H⟩ := am_ck_el H
        refine ex_iald (k := Lg) (v := xs (x3 + 1).toNatClampNeg) rfl hj rfl ?_
        obtain ⟨v291, S292, hp, H⟩ := am_b2_el H
        refine ex_callV rfl rfl (Nat.le_of_ble_eq_true rfl) (Nat.le_of_ble_eq_true rfl) rfl (r191 (by omega) hp) rfl ?_
        refine ex_aload_n rfl ?_
        refine ex_aload_n rfl ?_
        refine ex_iload_n rfl ?_
        refine ex_iconst (v := 1) (by decide) ?_
        refine ex_iadd ?_
        obtain ⟨hj, H⟩ := am_ck_el H
        refine ex_iald (k := Lg) (v := xs (x3 + 1).toNatClampNeg) rfl hj rfl ?_
        obtain ⟨v293, S294, hp, H⟩ := am_b2_el H
        refine ex_callV rfl rfl (Nat.le_of_ble_eq_true rfl) (Nat.le_of_ble_eq_true rfl) rfl (r292 (by omega) hp) rfl ?_
        by_cases h295 : v291 = v293
        · rw [if_pos h295] at H
          refine ex_icmp_eq_j (ct := am_c299_2179) h295 rfl ?_
          exact e299_2179 hd (fun x3 S q H => ih x3 S q H) H
        · rw [if_neg h295] at H
          refine ex_icmp_eq_f h295 ?_
          refine ex_iconst (v := 0) (by decide) ?_
          have H := Option.some.inj H
          subst H
          exact ex_iret (M := 299) (Or.inr ⟨rfl, by decide⟩)
      rw [if_neg h290] at H
      by_cases h296 : ((xs x3.toNatClampNeg) &&& 63) = 49
      · rw [if_pos h296] at H
        refine ex_table (off := 2090) (ct := am_c299_2123) (by rw [h296]; decide) rfl ?_
        refine ex_aload_n rfl ?_
        refine ex_aload_n rfl ?_
        refine ex_iload_n rfl ?_
        refine ex_iconst (v := 1) (by decide) ?_
        refine ex_iadd ?_
        obtain ⟨hj, H⟩ := am_ck_el H
        refine ex_iald (k := Lg) (v := xs (x3 + 1).toNatClampNeg) rfl hj rfl ?_
        obtain ⟨v297, S298, hp, H⟩ := am_b2_el H
        refine ex_callV rfl rfl (Nat.le_of_ble_eq_true rfl) (Nat.le_of_ble_eq_true rfl) rfl (r192 (by omega) hp) rfl ?_
        refine ex_aload_n rfl ?_
        refine ex_aload_n rfl ?_
        refine ex_iload_n rfl ?_
        refine ex_iconst (v := 1) (by decide) ?_
        refine ex_iadd ?_
        obtain ⟨hj, H⟩ := am_ck_el H
        refine ex_iald (k := Lg) (v := xs (x3 + 1).toNatClampNeg) rfl hj rfl ?_
        obtain ⟨v299, S300, hp, H⟩ := am_b2_el H
        refine ex_callV rfl rfl (Nat.le_of_ble_eq_true rfl) (Nat.le_of_ble_eq_true rfl) rfl (r293 (by omega) hp) rfl ?_
        by_cases h301 : v297 = v299
        · rw [if_pos h301] at H
          refine ex_icmp_eq_j (ct := am_c299_2179) h301 rfl ?_
          exact e299_2179 hd (fun x3 S q H => ih x3 S q H) H
        · rw [if_neg h301] at H
          refine ex_icmp_eq_f h301 ?_
          refine ex_iconst (v := 0) (by decide) ?_
          have H := Option.some.inj H
          subst H
          exact ex_iret (M := 299) (Or.inr ⟨rfl, by decide⟩)
      rw [if_neg h296] at H
      by_cases h302 : ((xs x3.toNatClampNeg) &&& 63) = 50
      · rw [if_pos h302] at H
        refine ex_table (off := 2113) (ct := am_c299_2146) (by rw [h302]; decide) rfl ?_
        refine ex_aload_n rfl ?_
        refine ex_aload_n rfl ?_
        refine ex_iload_n rfl ?_
        refine ex_iconst (v := 1) (by decide) ?_
        refine ex_iadd ?_
        obtain ⟨hj, H⟩ := am_ck_el H
        refine ex_iald (k := Lg) (v := xs (x3 + 1).toNatClampNeg) rfl hj rfl ?_
        refine ex_aload_n rfl ?_
        refine ex_iload_n rfl ?_
        refine ex_iconst (v := 2) (by decide) ?_
        refine ex_iadd ?_
        obtain ⟨hj, H⟩ := am_ck_el H
        refine ex_iald (k := Lg) (v := xs (x3 + 2).toNatClampNeg) rfl hj rfl ?_
        obtain ⟨v303, S304, hp, H⟩ := am_b2_el H
        refine ex_callV rfl rfl (Nat.le_of_ble_eq_true rfl) (Nat.le_of_ble_eq_true rfl) rfl (r193 (by omega) hp) rfl ?_
        refine ex_aload_n rfl ?_
        refine ex_aload_n rfl ?_
        refine ex_iload_n rfl ?_
        refine ex_iconst (v := 1) (by decide) ?_
        refine ex_iadd ?_
        obtain ⟨hj, H⟩ := am_ck_el H
        refine ex_iald (k := Lg) (v := xs (x3 + 1).toNatClampNeg) rfl hj rfl ?_
        refine ex_aload_n rfl ?_
        refine ex_iload_n rfl ?_
        refine ex_iconst (v := 2) (by decide) ?_
        refine ex_iadd ?_
        obtain ⟨hj, H⟩ := am_ck_el H
        refine ex_iald (k := Lg) (v := xs (x3 + 2).toNatClampNeg) rfl hj rfl ?_
        obtain ⟨v305, S306, hp, H⟩ := am_b2_el H
        refine ex_callV rfl rfl (Nat.le_of_ble_eq_true rfl) (Nat.le_of_ble_eq_true rfl) rfl (r294 (by omega) hp) rfl ?_
        by_cases h307 : v303 = v305
        · rw [if_pos h307] at H
          refine ex_icmp_eq_j (ct := am_c299_2179) h307 rfl ?_
          exact e299_2179 hd (fun x3 S q H => ih x3 S q H) H
        · rw [if_neg h307] at H
          refine ex_icmp_eq_f h307 ?_
          refine ex_iconst (v := 0) (by decide) ?_
          have H := Option.some.inj H
          subst H
          exact ex_iret (M := 299) (Or.inr ⟨rfl, by decide⟩)
      rw [if_neg h302] at H
      refine ex_table (off := 2146) (ct := am_c299_2179) (am_sw_out 51 (by decide) (by decide) (by decide) (fun k hk => match k, hk with | 0, _ => h2 | 1, _ => h8 | 2, _ => h14 | 3, _ => h20 | 4, _ => h26 | 5, _ => h32 | 6, _ => h38 | 7, _ => h44 | 8, _ => h50 | 9, _ => h56 | 10, _ => h62 | 11, _ => h68 | 12, _ => h74 | 13, _ => h80 | 14, _ => h86 | 15, _ => h92 | 16, _ => h98 | 17, _ => h104 | 18, _ => h110 | 19, _ => h116 | 20, _ => h122 | 21, _ => h128 | 22, _ => h134 | 23, _ => h140 | 24, _ => h146 | 25, _ => h152 | 26, _ => h158 | 27, _ => h164 | 28, _ => h170 | 29, _ => h176 | 30, _ => h182 | 31, _ => h188 | 32, _ => h194 | 33, _ => h200 | 34, _ => h206 | 35, _ => h212 | 36, _ => h218 | 37, _ => h224 | 38, _ => h230 | 39, _ => h236 | 40, _ => h242 | 41, _ => h248 | 42, _ => h254 | 43, _ => h260 | 44, _ => h266 | 45, _ => h272 | 46, _ => h278 | 47, _ => h284 | 48, _ => h290 | 49, _ => h296 | 50, _ => h302 | k + 51, hk => absurd hk (by omega))) rfl ?_
      exact e299_2179 hd (fun x3 S q H => ih x3 S q H) H
