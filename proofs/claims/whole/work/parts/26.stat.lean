/-! the 140 cells behind both constructors: their shapes, the model's references (written by genstat.py) -/
def SHP : List (Nat × Nat) := [(4, 10), (4, 4), (0, 100), (0, 20), (0, 19), (4, 4), (0, 100), (0, 20), (0, 19), (4, 4), (0, 100), (0, 20), (0, 19), (4, 8), (0, 150), (0, 100), (4, 5), (0, 12), (0, 12), (0, 12), (0, 13), (3, 14), (4, 7), (1, 384), (1, 6), (4, 7), (1, 384), (1, 6), (4, 7), (1, 384), (1, 6), (4, 7), (1, 384), (1, 6), (4, 7), (1, 384), (1, 6), (4, 7), (1, 384), (1, 6), (4, 7), (1, 384), (1, 6), (4, 7), (1, 384), (1, 6), (4, 7), (1, 384), (1, 6), (4, 7), (1, 384), (1, 6), (4, 7), (1, 384), (1, 6), (4, 7), (1, 384), (1, 6), (4, 7), (1, 384), (1, 6), (4, 7), (1, 384), (1, 6), (1, 2058), (1, 2058), (4, 9), (0, 12), (0, 13), (4, 0), (0, 12), (0, 13), (0, 12), (0, 12), (4, 2), (0, 13), (0, 13), (4, 6), (0, 6), (4, 3), (0, 384), (0, 384), (0, 12), (4, 1), (4, 7), (1, 494), (1, 8), (4, 7), (1, 494), (1, 8), (4, 7), (1, 494), (1, 8), (0, 42), (4, 11), (0, 2), (0, 2), (0, 2), (0, 2), (0, 40), (0, 40), (0, 40), (0, 40), (0, 40), (0, 20), (0, 20), (0, 20), (0, 20), (0, 20), (0, 150), (0, 12), (0, 12), (0, 16), (0, 12), (0, 319800), (0, 13), (0, 29478), (1, 29478), (1, 29478), (2, 383214), (0, 13), (0, 13), (0, 14), (0, 384), (2, 384), (0, 20000), (0, 20000), (0, 65536), (0, 40000), (0, 40000), (0, 6), (0, 6), (0, 24600), (0, 7), (0, 12), (0, 12), (0, 13), (0, 4), (0, 29478), (0, 29478)]
theorem z0 {h : AH} (p : h.1 = SHP) : h.1[0]? = some (4, 10) := by rw [p]; rfl
theorem z1 {h : AH} (p : h.1 = SHP) : h.1[1]? = some (4, 4) := by rw [p]; rfl
theorem z2 {h : AH} (p : h.1 = SHP) : h.1[2]? = some (0, 100) := by rw [p]; rfl
theorem z3 {h : AH} (p : h.1 = SHP) : h.1[3]? = some (0, 20) := by rw [p]; rfl
theorem z4 {h : AH} (p : h.1 = SHP) : h.1[4]? = some (0, 19) := by rw [p]; rfl
theorem z5 {h : AH} (p : h.1 = SHP) : h.1[5]? = some (4, 4) := by rw [p]; rfl
theorem z6 {h : AH} (p : h.1 = SHP) : h.1[6]? = some (0, 100) := by rw [p]; rfl
theorem z7 {h : AH} (p : h.1 = SHP) : h.1[7]? = some (0, 20) := by rw [p]; rfl
theorem z8 {h : AH} (p : h.1 = SHP) : h.1[8]? = some (0, 19) := by rw [p]; rfl
theorem z9 {h : AH} (p : h.1 = SHP) : h.1[9]? = some (4, 4) := by rw [p]; rfl
theorem z10 {h : AH} (p : h.1 = SHP) : h.1[10]? = some (0, 100) := by rw [p]; rfl
theorem z11 {h : AH} (p : h.1 = SHP) : h.1[11]? = some (0, 20) := by rw [p]; rfl
theorem z12 {h : AH} (p : h.1 = SHP) : h.1[12]? = some (0, 19) := by rw [p]; rfl
theorem z13 {h : AH} (p : h.1 = SHP) : h.1[13]? = some (4, 8) := by rw [p]; rfl
theorem z14 {h : AH} (p : h.1 = SHP) : h.1[14]? = some (0, 150) := by rw [p]; rfl
theorem z15 {h : AH} (p : h.1 = SHP) : h.1[15]? = some (0, 100) := by rw [p]; rfl
theorem z16 {h : AH} (p : h.1 = SHP) : h.1[16]? = some (4, 5) := by rw [p]; rfl
theorem z17 {h : AH} (p : h.1 = SHP) : h.1[17]? = some (0, 12) := by rw [p]; rfl
theorem z18 {h : AH} (p : h.1 = SHP) : h.1[18]? = some (0, 12) := by rw [p]; rfl
theorem z19 {h : AH} (p : h.1 = SHP) : h.1[19]? = some (0, 12) := by rw [p]; rfl
theorem z20 {h : AH} (p : h.1 = SHP) : h.1[20]? = some (0, 13) := by rw [p]; rfl
theorem z21 {h : AH} (p : h.1 = SHP) : h.1[21]? = some (3, 14) := by rw [p]; rfl
theorem z22 {h : AH} (p : h.1 = SHP) : h.1[22]? = some (4, 7) := by rw [p]; rfl
theorem z23 {h : AH} (p : h.1 = SHP) : h.1[23]? = some (1, 384) := by rw [p]; rfl
theorem z24 {h : AH} (p : h.1 = SHP) : h.1[24]? = some (1, 6) := by rw [p]; rfl
theorem z25 {h : AH} (p : h.1 = SHP) : h.1[25]? = some (4, 7) := by rw [p]; rfl
theorem z26 {h : AH} (p : h.1 = SHP) : h.1[26]? = some (1, 384) := by rw [p]; rfl
theorem z27 {h : AH} (p : h.1 = SHP) : h.1[27]? = some (1, 6) := by rw [p]; rfl
theorem z28 {h : AH} (p : h.1 = SHP) : h.1[28]? = some (4, 7) := by rw [p]; rfl
theorem z29 {h : AH} (p : h.1 = SHP) : h.1[29]? = some (1, 384) := by rw [p]; rfl
theorem z30 {h : AH} (p : h.1 = SHP) : h.1[30]? = some (1, 6) := by rw [p]; rfl
theorem z31 {h : AH} (p : h.1 = SHP) : h.1[31]? = some (4, 7) := by rw [p]; rfl
theorem z32 {h : AH} (p : h.1 = SHP) : h.1[32]? = some (1, 384) := by rw [p]; rfl
theorem z33 {h : AH} (p : h.1 = SHP) : h.1[33]? = some (1, 6) := by rw [p]; rfl
theorem z34 {h : AH} (p : h.1 = SHP) : h.1[34]? = some (4, 7) := by rw [p]; rfl
theorem z35 {h : AH} (p : h.1 = SHP) : h.1[35]? = some (1, 384) := by rw [p]; rfl
theorem z36 {h : AH} (p : h.1 = SHP) : h.1[36]? = some (1, 6) := by rw [p]; rfl
theorem z37 {h : AH} (p : h.1 = SHP) : h.1[37]? = some (4, 7) := by rw [p]; rfl
theorem z38 {h : AH} (p : h.1 = SHP) : h.1[38]? = some (1, 384) := by rw [p]; rfl
theorem z39 {h : AH} (p : h.1 = SHP) : h.1[39]? = some (1, 6) := by rw [p]; rfl
theorem z40 {h : AH} (p : h.1 = SHP) : h.1[40]? = some (4, 7) := by rw [p]; rfl
theorem z41 {h : AH} (p : h.1 = SHP) : h.1[41]? = some (1, 384) := by rw [p]; rfl
theorem z42 {h : AH} (p : h.1 = SHP) : h.1[42]? = some (1, 6) := by rw [p]; rfl
theorem z43 {h : AH} (p : h.1 = SHP) : h.1[43]? = some (4, 7) := by rw [p]; rfl
theorem z44 {h : AH} (p : h.1 = SHP) : h.1[44]? = some (1, 384) := by rw [p]; rfl
theorem z45 {h : AH} (p : h.1 = SHP) : h.1[45]? = some (1, 6) := by rw [p]; rfl
theorem z46 {h : AH} (p : h.1 = SHP) : h.1[46]? = some (4, 7) := by rw [p]; rfl
theorem z47 {h : AH} (p : h.1 = SHP) : h.1[47]? = some (1, 384) := by rw [p]; rfl
theorem z48 {h : AH} (p : h.1 = SHP) : h.1[48]? = some (1, 6) := by rw [p]; rfl
theorem z49 {h : AH} (p : h.1 = SHP) : h.1[49]? = some (4, 7) := by rw [p]; rfl
theorem z50 {h : AH} (p : h.1 = SHP) : h.1[50]? = some (1, 384) := by rw [p]; rfl
theorem z51 {h : AH} (p : h.1 = SHP) : h.1[51]? = some (1, 6) := by rw [p]; rfl
theorem z52 {h : AH} (p : h.1 = SHP) : h.1[52]? = some (4, 7) := by rw [p]; rfl
theorem z53 {h : AH} (p : h.1 = SHP) : h.1[53]? = some (1, 384) := by rw [p]; rfl
theorem z54 {h : AH} (p : h.1 = SHP) : h.1[54]? = some (1, 6) := by rw [p]; rfl
theorem z55 {h : AH} (p : h.1 = SHP) : h.1[55]? = some (4, 7) := by rw [p]; rfl
theorem z56 {h : AH} (p : h.1 = SHP) : h.1[56]? = some (1, 384) := by rw [p]; rfl
theorem z57 {h : AH} (p : h.1 = SHP) : h.1[57]? = some (1, 6) := by rw [p]; rfl
theorem z58 {h : AH} (p : h.1 = SHP) : h.1[58]? = some (4, 7) := by rw [p]; rfl
theorem z59 {h : AH} (p : h.1 = SHP) : h.1[59]? = some (1, 384) := by rw [p]; rfl
theorem z60 {h : AH} (p : h.1 = SHP) : h.1[60]? = some (1, 6) := by rw [p]; rfl
theorem z61 {h : AH} (p : h.1 = SHP) : h.1[61]? = some (4, 7) := by rw [p]; rfl
theorem z62 {h : AH} (p : h.1 = SHP) : h.1[62]? = some (1, 384) := by rw [p]; rfl
theorem z63 {h : AH} (p : h.1 = SHP) : h.1[63]? = some (1, 6) := by rw [p]; rfl
theorem z64 {h : AH} (p : h.1 = SHP) : h.1[64]? = some (1, 2058) := by rw [p]; rfl
theorem z65 {h : AH} (p : h.1 = SHP) : h.1[65]? = some (1, 2058) := by rw [p]; rfl
theorem z66 {h : AH} (p : h.1 = SHP) : h.1[66]? = some (4, 9) := by rw [p]; rfl
theorem z67 {h : AH} (p : h.1 = SHP) : h.1[67]? = some (0, 12) := by rw [p]; rfl
theorem z68 {h : AH} (p : h.1 = SHP) : h.1[68]? = some (0, 13) := by rw [p]; rfl
theorem z69 {h : AH} (p : h.1 = SHP) : h.1[69]? = some (4, 0) := by rw [p]; rfl
theorem z70 {h : AH} (p : h.1 = SHP) : h.1[70]? = some (0, 12) := by rw [p]; rfl
theorem z71 {h : AH} (p : h.1 = SHP) : h.1[71]? = some (0, 13) := by rw [p]; rfl
theorem z72 {h : AH} (p : h.1 = SHP) : h.1[72]? = some (0, 12) := by rw [p]; rfl
theorem z73 {h : AH} (p : h.1 = SHP) : h.1[73]? = some (0, 12) := by rw [p]; rfl
theorem z74 {h : AH} (p : h.1 = SHP) : h.1[74]? = some (4, 2) := by rw [p]; rfl
theorem z75 {h : AH} (p : h.1 = SHP) : h.1[75]? = some (0, 13) := by rw [p]; rfl
theorem z76 {h : AH} (p : h.1 = SHP) : h.1[76]? = some (0, 13) := by rw [p]; rfl
theorem z77 {h : AH} (p : h.1 = SHP) : h.1[77]? = some (4, 6) := by rw [p]; rfl
theorem z78 {h : AH} (p : h.1 = SHP) : h.1[78]? = some (0, 6) := by rw [p]; rfl
theorem z79 {h : AH} (p : h.1 = SHP) : h.1[79]? = some (4, 3) := by rw [p]; rfl
theorem z80 {h : AH} (p : h.1 = SHP) : h.1[80]? = some (0, 384) := by rw [p]; rfl
theorem z81 {h : AH} (p : h.1 = SHP) : h.1[81]? = some (0, 384) := by rw [p]; rfl
theorem z82 {h : AH} (p : h.1 = SHP) : h.1[82]? = some (0, 12) := by rw [p]; rfl
theorem z83 {h : AH} (p : h.1 = SHP) : h.1[83]? = some (4, 1) := by rw [p]; rfl
theorem z84 {h : AH} (p : h.1 = SHP) : h.1[84]? = some (4, 7) := by rw [p]; rfl
theorem z85 {h : AH} (p : h.1 = SHP) : h.1[85]? = some (1, 494) := by rw [p]; rfl
theorem z86 {h : AH} (p : h.1 = SHP) : h.1[86]? = some (1, 8) := by rw [p]; rfl
theorem z87 {h : AH} (p : h.1 = SHP) : h.1[87]? = some (4, 7) := by rw [p]; rfl
theorem z88 {h : AH} (p : h.1 = SHP) : h.1[88]? = some (1, 494) := by rw [p]; rfl
theorem z89 {h : AH} (p : h.1 = SHP) : h.1[89]? = some (1, 8) := by rw [p]; rfl
theorem z90 {h : AH} (p : h.1 = SHP) : h.1[90]? = some (4, 7) := by rw [p]; rfl
theorem z91 {h : AH} (p : h.1 = SHP) : h.1[91]? = some (1, 494) := by rw [p]; rfl
theorem z92 {h : AH} (p : h.1 = SHP) : h.1[92]? = some (1, 8) := by rw [p]; rfl
theorem z93 {h : AH} (p : h.1 = SHP) : h.1[93]? = some (0, 42) := by rw [p]; rfl
theorem z94 {h : AH} (p : h.1 = SHP) : h.1[94]? = some (4, 11) := by rw [p]; rfl
theorem z95 {h : AH} (p : h.1 = SHP) : h.1[95]? = some (0, 2) := by rw [p]; rfl
theorem z96 {h : AH} (p : h.1 = SHP) : h.1[96]? = some (0, 2) := by rw [p]; rfl
theorem z97 {h : AH} (p : h.1 = SHP) : h.1[97]? = some (0, 2) := by rw [p]; rfl
theorem z98 {h : AH} (p : h.1 = SHP) : h.1[98]? = some (0, 2) := by rw [p]; rfl
theorem z99 {h : AH} (p : h.1 = SHP) : h.1[99]? = some (0, 40) := by rw [p]; rfl
theorem z100 {h : AH} (p : h.1 = SHP) : h.1[100]? = some (0, 40) := by rw [p]; rfl
theorem z101 {h : AH} (p : h.1 = SHP) : h.1[101]? = some (0, 40) := by rw [p]; rfl
theorem z102 {h : AH} (p : h.1 = SHP) : h.1[102]? = some (0, 40) := by rw [p]; rfl
theorem z103 {h : AH} (p : h.1 = SHP) : h.1[103]? = some (0, 40) := by rw [p]; rfl
theorem z104 {h : AH} (p : h.1 = SHP) : h.1[104]? = some (0, 20) := by rw [p]; rfl
theorem z105 {h : AH} (p : h.1 = SHP) : h.1[105]? = some (0, 20) := by rw [p]; rfl
theorem z106 {h : AH} (p : h.1 = SHP) : h.1[106]? = some (0, 20) := by rw [p]; rfl
theorem z107 {h : AH} (p : h.1 = SHP) : h.1[107]? = some (0, 20) := by rw [p]; rfl
theorem z108 {h : AH} (p : h.1 = SHP) : h.1[108]? = some (0, 20) := by rw [p]; rfl
theorem z109 {h : AH} (p : h.1 = SHP) : h.1[109]? = some (0, 150) := by rw [p]; rfl
theorem z110 {h : AH} (p : h.1 = SHP) : h.1[110]? = some (0, 12) := by rw [p]; rfl
theorem z111 {h : AH} (p : h.1 = SHP) : h.1[111]? = some (0, 12) := by rw [p]; rfl
theorem z112 {h : AH} (p : h.1 = SHP) : h.1[112]? = some (0, 16) := by rw [p]; rfl
theorem z113 {h : AH} (p : h.1 = SHP) : h.1[113]? = some (0, 12) := by rw [p]; rfl
theorem z114 {h : AH} (p : h.1 = SHP) : h.1[114]? = some (0, 319800) := by rw [p]; rfl
theorem z115 {h : AH} (p : h.1 = SHP) : h.1[115]? = some (0, 13) := by rw [p]; rfl
theorem z116 {h : AH} (p : h.1 = SHP) : h.1[116]? = some (0, 29478) := by rw [p]; rfl
theorem z117 {h : AH} (p : h.1 = SHP) : h.1[117]? = some (1, 29478) := by rw [p]; rfl
theorem z118 {h : AH} (p : h.1 = SHP) : h.1[118]? = some (1, 29478) := by rw [p]; rfl
theorem z119 {h : AH} (p : h.1 = SHP) : h.1[119]? = some (2, 383214) := by rw [p]; rfl
theorem z120 {h : AH} (p : h.1 = SHP) : h.1[120]? = some (0, 13) := by rw [p]; rfl
theorem z121 {h : AH} (p : h.1 = SHP) : h.1[121]? = some (0, 13) := by rw [p]; rfl
theorem z122 {h : AH} (p : h.1 = SHP) : h.1[122]? = some (0, 14) := by rw [p]; rfl
theorem z123 {h : AH} (p : h.1 = SHP) : h.1[123]? = some (0, 384) := by rw [p]; rfl
theorem z124 {h : AH} (p : h.1 = SHP) : h.1[124]? = some (2, 384) := by rw [p]; rfl
theorem z125 {h : AH} (p : h.1 = SHP) : h.1[125]? = some (0, 20000) := by rw [p]; rfl
theorem z126 {h : AH} (p : h.1 = SHP) : h.1[126]? = some (0, 20000) := by rw [p]; rfl
theorem z127 {h : AH} (p : h.1 = SHP) : h.1[127]? = some (0, 65536) := by rw [p]; rfl
theorem z128 {h : AH} (p : h.1 = SHP) : h.1[128]? = some (0, 40000) := by rw [p]; rfl
theorem z129 {h : AH} (p : h.1 = SHP) : h.1[129]? = some (0, 40000) := by rw [p]; rfl
theorem z130 {h : AH} (p : h.1 = SHP) : h.1[130]? = some (0, 6) := by rw [p]; rfl
theorem z131 {h : AH} (p : h.1 = SHP) : h.1[131]? = some (0, 6) := by rw [p]; rfl
theorem z132 {h : AH} (p : h.1 = SHP) : h.1[132]? = some (0, 24600) := by rw [p]; rfl
theorem z133 {h : AH} (p : h.1 = SHP) : h.1[133]? = some (0, 7) := by rw [p]; rfl
theorem z134 {h : AH} (p : h.1 = SHP) : h.1[134]? = some (0, 12) := by rw [p]; rfl
theorem z135 {h : AH} (p : h.1 = SHP) : h.1[135]? = some (0, 12) := by rw [p]; rfl
theorem z136 {h : AH} (p : h.1 = SHP) : h.1[136]? = some (0, 13) := by rw [p]; rfl
theorem z137 {h : AH} (p : h.1 = SHP) : h.1[137]? = some (0, 4) := by rw [p]; rfl
theorem z138 {h : AH} (p : h.1 = SHP) : h.1[138]? = some (0, 29478) := by rw [p]; rfl
theorem z139 {h : AH} (p : h.1 = SHP) : h.1[139]? = some (0, 29478) := by rw [p]; rfl
/-- the model's references -/
def MS (h : AH) : Prop := h.1 = SHP ∧ hR h 94 0 = some 95 ∧ hR h 94 1 = some 96 ∧ hR h 94 2 = some 97 ∧ hR h 94 3 = some 98 ∧ hR h 94 4 = some 99 ∧ hR h 94 5 = some 100 ∧ hR h 94 6 = some 101 ∧ hR h 94 7 = some 102 ∧ hR h 94 8 = some 103 ∧ hR h 94 10 = some 104 ∧ hR h 94 11 = some 105 ∧ hR h 94 12 = some 106 ∧ hR h 94 13 = some 107 ∧ hR h 94 14 = some 108 ∧ hR h 94 15 = some 109 ∧ hR h 94 17 = some 110 ∧ hR h 94 18 = some 111 ∧ hR h 94 23 = some 112 ∧ hR h 94 25 = some 113 ∧ hR h 94 26 = some 114 ∧ hR h 94 27 = some 115 ∧ hR h 94 28 = some 116 ∧ hR h 94 30 = some 117 ∧ hR h 94 31 = some 118 ∧ hR h 94 32 = some 119 ∧ hR h 94 33 = some 120 ∧ hR h 94 34 = some 121 ∧ hR h 94 35 = some 122 ∧ hR h 94 36 = some 123 ∧ hR h 94 37 = some 124 ∧ hR h 94 38 = some 125 ∧ hR h 94 39 = some 126 ∧ hR h 94 42 = some 127 ∧ hR h 94 43 = some 128 ∧ hR h 94 44 = some 129 ∧ hR h 94 46 = some 130 ∧ hR h 94 47 = some 131 ∧ hR h 94 48 = some 132 ∧ hR h 94 49 = some 133 ∧ hR h 94 50 = some 134 ∧ hR h 94 51 = some 135 ∧ hR h 94 52 = some 136 ∧ hR h 94 53 = some 137 ∧ hR h 94 54 = some 138 ∧ hR h 94 55 = some 139
theorem m0 {h : AH} (p : MS h) : hR h 94 0 = some 95 := p.2.1
theorem m1 {h : AH} (p : MS h) : hR h 94 1 = some 96 := p.2.2.1
theorem m2 {h : AH} (p : MS h) : hR h 94 2 = some 97 := p.2.2.2.1
theorem m3 {h : AH} (p : MS h) : hR h 94 3 = some 98 := p.2.2.2.2.1
theorem m4 {h : AH} (p : MS h) : hR h 94 4 = some 99 := p.2.2.2.2.2.1
theorem m5 {h : AH} (p : MS h) : hR h 94 5 = some 100 := p.2.2.2.2.2.2.1
theorem m6 {h : AH} (p : MS h) : hR h 94 6 = some 101 := p.2.2.2.2.2.2.2.1
theorem m7 {h : AH} (p : MS h) : hR h 94 7 = some 102 := p.2.2.2.2.2.2.2.2.1
theorem m8 {h : AH} (p : MS h) : hR h 94 8 = some 103 := p.2.2.2.2.2.2.2.2.2.1
theorem m10 {h : AH} (p : MS h) : hR h 94 10 = some 104 := p.2.2.2.2.2.2.2.2.2.2.1
theorem m11 {h : AH} (p : MS h) : hR h 94 11 = some 105 := p.2.2.2.2.2.2.2.2.2.2.2.1
theorem m12 {h : AH} (p : MS h) : hR h 94 12 = some 106 := p.2.2.2.2.2.2.2.2.2.2.2.2.1
theorem m13 {h : AH} (p : MS h) : hR h 94 13 = some 107 := p.2.2.2.2.2.2.2.2.2.2.2.2.2.1
theorem m14 {h : AH} (p : MS h) : hR h 94 14 = some 108 := p.2.2.2.2.2.2.2.2.2.2.2.2.2.2.1
theorem m15 {h : AH} (p : MS h) : hR h 94 15 = some 109 := p.2.2.2.2.2.2.2.2.2.2.2.2.2.2.2.1
theorem m17 {h : AH} (p : MS h) : hR h 94 17 = some 110 := p.2.2.2.2.2.2.2.2.2.2.2.2.2.2.2.2.1
theorem m18 {h : AH} (p : MS h) : hR h 94 18 = some 111 := p.2.2.2.2.2.2.2.2.2.2.2.2.2.2.2.2.2.1
theorem m23 {h : AH} (p : MS h) : hR h 94 23 = some 112 := p.2.2.2.2.2.2.2.2.2.2.2.2.2.2.2.2.2.2.1
theorem m25 {h : AH} (p : MS h) : hR h 94 25 = some 113 := p.2.2.2.2.2.2.2.2.2.2.2.2.2.2.2.2.2.2.2.1
theorem m26 {h : AH} (p : MS h) : hR h 94 26 = some 114 := p.2.2.2.2.2.2.2.2.2.2.2.2.2.2.2.2.2.2.2.2.1
theorem m27 {h : AH} (p : MS h) : hR h 94 27 = some 115 := p.2.2.2.2.2.2.2.2.2.2.2.2.2.2.2.2.2.2.2.2.2.1
theorem m28 {h : AH} (p : MS h) : hR h 94 28 = some 116 := p.2.2.2.2.2.2.2.2.2.2.2.2.2.2.2.2.2.2.2.2.2.2.1
theorem m30 {h : AH} (p : MS h) : hR h 94 30 = some 117 := p.2.2.2.2.2.2.2.2.2.2.2.2.2.2.2.2.2.2.2.2.2.2.2.1
theorem m31 {h : AH} (p : MS h) : hR h 94 31 = some 118 := p.2.2.2.2.2.2.2.2.2.2.2.2.2.2.2.2.2.2.2.2.2.2.2.2.1
theorem m32 {h : AH} (p : MS h) : hR h 94 32 = some 119 := p.2.2.2.2.2.2.2.2.2.2.2.2.2.2.2.2.2.2.2.2.2.2.2.2.2.1
theorem m33 {h : AH} (p : MS h) : hR h 94 33 = some 120 := p.2.2.2.2.2.2.2.2.2.2.2.2.2.2.2.2.2.2.2.2.2.2.2.2.2.2.1
theorem m34 {h : AH} (p : MS h) : hR h 94 34 = some 121 := p.2.2.2.2.2.2.2.2.2.2.2.2.2.2.2.2.2.2.2.2.2.2.2.2.2.2.2.1
theorem m35 {h : AH} (p : MS h) : hR h 94 35 = some 122 := p.2.2.2.2.2.2.2.2.2.2.2.2.2.2.2.2.2.2.2.2.2.2.2.2.2.2.2.2.1
theorem m36 {h : AH} (p : MS h) : hR h 94 36 = some 123 := p.2.2.2.2.2.2.2.2.2.2.2.2.2.2.2.2.2.2.2.2.2.2.2.2.2.2.2.2.2.1
theorem m37 {h : AH} (p : MS h) : hR h 94 37 = some 124 := p.2.2.2.2.2.2.2.2.2.2.2.2.2.2.2.2.2.2.2.2.2.2.2.2.2.2.2.2.2.2.1
theorem m38 {h : AH} (p : MS h) : hR h 94 38 = some 125 := p.2.2.2.2.2.2.2.2.2.2.2.2.2.2.2.2.2.2.2.2.2.2.2.2.2.2.2.2.2.2.2.1
theorem m39 {h : AH} (p : MS h) : hR h 94 39 = some 126 := p.2.2.2.2.2.2.2.2.2.2.2.2.2.2.2.2.2.2.2.2.2.2.2.2.2.2.2.2.2.2.2.2.1
theorem m42 {h : AH} (p : MS h) : hR h 94 42 = some 127 := p.2.2.2.2.2.2.2.2.2.2.2.2.2.2.2.2.2.2.2.2.2.2.2.2.2.2.2.2.2.2.2.2.2.1
theorem m43 {h : AH} (p : MS h) : hR h 94 43 = some 128 := p.2.2.2.2.2.2.2.2.2.2.2.2.2.2.2.2.2.2.2.2.2.2.2.2.2.2.2.2.2.2.2.2.2.2.1
theorem m44 {h : AH} (p : MS h) : hR h 94 44 = some 129 := p.2.2.2.2.2.2.2.2.2.2.2.2.2.2.2.2.2.2.2.2.2.2.2.2.2.2.2.2.2.2.2.2.2.2.2.1
theorem m46 {h : AH} (p : MS h) : hR h 94 46 = some 130 := p.2.2.2.2.2.2.2.2.2.2.2.2.2.2.2.2.2.2.2.2.2.2.2.2.2.2.2.2.2.2.2.2.2.2.2.2.1
theorem m47 {h : AH} (p : MS h) : hR h 94 47 = some 131 := p.2.2.2.2.2.2.2.2.2.2.2.2.2.2.2.2.2.2.2.2.2.2.2.2.2.2.2.2.2.2.2.2.2.2.2.2.2.1
theorem m48 {h : AH} (p : MS h) : hR h 94 48 = some 132 := p.2.2.2.2.2.2.2.2.2.2.2.2.2.2.2.2.2.2.2.2.2.2.2.2.2.2.2.2.2.2.2.2.2.2.2.2.2.2.1
theorem m49 {h : AH} (p : MS h) : hR h 94 49 = some 133 := p.2.2.2.2.2.2.2.2.2.2.2.2.2.2.2.2.2.2.2.2.2.2.2.2.2.2.2.2.2.2.2.2.2.2.2.2.2.2.2.1
theorem m50 {h : AH} (p : MS h) : hR h 94 50 = some 134 := p.2.2.2.2.2.2.2.2.2.2.2.2.2.2.2.2.2.2.2.2.2.2.2.2.2.2.2.2.2.2.2.2.2.2.2.2.2.2.2.2.1
theorem m51 {h : AH} (p : MS h) : hR h 94 51 = some 135 := p.2.2.2.2.2.2.2.2.2.2.2.2.2.2.2.2.2.2.2.2.2.2.2.2.2.2.2.2.2.2.2.2.2.2.2.2.2.2.2.2.2.1
theorem m52 {h : AH} (p : MS h) : hR h 94 52 = some 136 := p.2.2.2.2.2.2.2.2.2.2.2.2.2.2.2.2.2.2.2.2.2.2.2.2.2.2.2.2.2.2.2.2.2.2.2.2.2.2.2.2.2.2.1
theorem m53 {h : AH} (p : MS h) : hR h 94 53 = some 137 := p.2.2.2.2.2.2.2.2.2.2.2.2.2.2.2.2.2.2.2.2.2.2.2.2.2.2.2.2.2.2.2.2.2.2.2.2.2.2.2.2.2.2.2.1
theorem m54 {h : AH} (p : MS h) : hR h 94 54 = some 138 := p.2.2.2.2.2.2.2.2.2.2.2.2.2.2.2.2.2.2.2.2.2.2.2.2.2.2.2.2.2.2.2.2.2.2.2.2.2.2.2.2.2.2.2.2.1
theorem m55 {h : AH} (p : MS h) : hR h 94 55 = some 139 := p.2.2.2.2.2.2.2.2.2.2.2.2.2.2.2.2.2.2.2.2.2.2.2.2.2.2.2.2.2.2.2.2.2.2.2.2.2.2.2.2.2.2.2.2.2
theorem MS.mv {h h' : AH} (p : MS h) (e : h'.1 = h.1) (q : ∀ j, hR h' 94 j = hR h 94 j) : MS h' := by
  unfold MS at *; simp only [e, q]; exact p
