/-! for every method: its words and its rows (gen1.py) -/
def lc_QP (k : Nat) : Prop := ∀ pc, lc_rok k pc (lc_fetch k pc) = true
def lc_MP (k : Nat) : Prop := lc_mok k = true
theorem lc_guard {k L : Nat} {f : Nat → Option lc_Row} (h : ∀ pc, pc < L → lc_rok k pc (f pc) = true) (pc : Nat) : lc_rok k pc (bif Nat.blt pc L then f pc else none) = true := by
  by_cases hp : pc < L
  · have e : Nat.blt pc L = true := Nat.ble_eq.mpr hp
    rw [e]; exact h pc hp
  · have e : Nat.blt pc L = false := by
      cases q : Nat.blt pc L with
      | false => rfl
      | true => exact absurd (Nat.ble_eq.mp q) hp
    rw [e]; rfl
theorem lc_q0 : lc_QP 0 := fun pc => lc_guard (k := 0) (L := 18) (f := lc_f0) lc_r0 pc
theorem lc_q1 : lc_QP 1 := fun pc => lc_guard (k := 1) (L := 21) (f := lc_f1) lc_r1 pc
theorem lc_q2 : lc_QP 2 := fun pc => lc_guard (k := 2) (L := 48) (f := lc_f2) lc_r2 pc
theorem lc_q3 : lc_QP 3 := fun pc => lc_guard (k := 3) (L := 22) (f := lc_f3) lc_r3 pc
theorem lc_q4 : lc_QP 4 := fun pc => lc_guard (k := 4) (L := 30) (f := lc_f4) lc_r4 pc
theorem lc_q5 : lc_QP 5 := fun pc => lc_guard (k := 5) (L := 27) (f := lc_f5) lc_r5 pc
theorem lc_q6 : lc_QP 6 := fun pc => lc_guard (k := 6) (L := 49) (f := lc_f6) lc_r6 pc
theorem lc_q7 : lc_QP 7 := fun pc => lc_guard (k := 7) (L := 75) (f := lc_f7) lc_r7 pc
theorem lc_q8 : lc_QP 8 := fun pc => lc_guard (k := 8) (L := 50) (f := lc_f8) lc_r8 pc
theorem lc_q9 : lc_QP 9 := fun pc => lc_guard (k := 9) (L := 34) (f := lc_f9) lc_r9 pc
theorem lc_q10 : lc_QP 10 := fun pc => lc_guard (k := 10) (L := 68) (f := lc_f10) lc_r10 pc
theorem lc_q11 : lc_QP 11 := fun pc => lc_guard (k := 11) (L := 56) (f := lc_f11) lc_r11 pc
theorem lc_q12 : lc_QP 12 := fun pc => lc_guard (k := 12) (L := 20) (f := lc_f12) lc_r12 pc
theorem lc_q13 : lc_QP 13 := fun pc => lc_guard (k := 13) (L := 6) (f := lc_f13) lc_r13 pc
theorem lc_q14 : lc_QP 14 := fun pc => lc_guard (k := 14) (L := 29) (f := lc_f14) lc_r14 pc
theorem lc_q15 : lc_QP 15 := fun pc => lc_guard (k := 15) (L := 10) (f := lc_f15) lc_r15 pc
theorem lc_q16 : lc_QP 16 := fun pc => lc_guard (k := 16) (L := 38) (f := lc_f16) lc_r16 pc
theorem lc_q17 : lc_QP 17 := fun pc => lc_guard (k := 17) (L := 36) (f := lc_f17) lc_r17 pc
theorem lc_q18 : lc_QP 18 := fun pc => lc_guard (k := 18) (L := 82) (f := lc_f18) lc_r18 pc
theorem lc_q19 : lc_QP 19 := fun pc => lc_guard (k := 19) (L := 44) (f := lc_f19) lc_r19 pc
theorem lc_q20 : lc_QP 20 := fun pc => lc_guard (k := 20) (L := 32) (f := lc_f20) lc_r20 pc
theorem lc_q21 : lc_QP 21 := fun pc => lc_guard (k := 21) (L := 53) (f := lc_f21) lc_r21 pc
theorem lc_q22 : lc_QP 22 := fun pc => lc_guard (k := 22) (L := 106) (f := lc_f22) lc_r22 pc
theorem lc_q23 : lc_QP 23 := fun pc => lc_guard (k := 23) (L := 106) (f := lc_f23) lc_r23 pc
theorem lc_q24 : lc_QP 24 := fun pc => lc_guard (k := 24) (L := 26) (f := lc_f24) lc_r24 pc
theorem lc_q25 : lc_QP 25 := fun pc => lc_guard (k := 25) (L := 6) (f := lc_f25) lc_r25 pc
theorem lc_q26 : lc_QP 26 := fun pc => lc_guard (k := 26) (L := 31) (f := lc_f26) lc_r26 pc
theorem lc_q27 : lc_QP 27 := fun pc => lc_guard (k := 27) (L := 37) (f := lc_f27) lc_r27 pc
theorem lc_q28 : lc_QP 28 := fun pc => lc_guard (k := 28) (L := 45) (f := lc_f28) lc_r28 pc
theorem lc_q29 : lc_QP 29 := fun pc => lc_guard (k := 29) (L := 21) (f := lc_f29) lc_r29 pc
theorem lc_q30 : lc_QP 30 := fun pc => lc_guard (k := 30) (L := 108) (f := lc_f30) lc_r30 pc
theorem lc_q31 : lc_QP 31 := fun pc => lc_guard (k := 31) (L := 13) (f := lc_f31) lc_r31 pc
theorem lc_q32 : lc_QP 32 := fun pc => lc_guard (k := 32) (L := 18) (f := lc_f32) lc_r32 pc
theorem lc_q33 : lc_QP 33 := fun pc => lc_guard (k := 33) (L := 18) (f := lc_f33) lc_r33 pc
theorem lc_q34 : lc_QP 34 := fun pc => lc_guard (k := 34) (L := 9) (f := lc_f34) lc_r34 pc
theorem lc_q35 : lc_QP 35 := fun pc => lc_guard (k := 35) (L := 18) (f := lc_f35) lc_r35 pc
theorem lc_q36 : lc_QP 36 := fun pc => lc_guard (k := 36) (L := 43) (f := lc_f36) lc_r36 pc
theorem lc_q37 : lc_QP 37 := fun pc => lc_guard (k := 37) (L := 79) (f := lc_f37) lc_r37 pc
theorem lc_q38 : lc_QP 38 := fun pc => lc_guard (k := 38) (L := 18) (f := lc_f38) lc_r38 pc
theorem lc_q39 : lc_QP 39 := fun pc => lc_guard (k := 39) (L := 43) (f := lc_f39) lc_r39 pc
theorem lc_q40 : lc_QP 40 := fun pc => lc_guard (k := 40) (L := 67) (f := lc_f40) lc_r40 pc
theorem lc_q41 : lc_QP 41 := fun pc => lc_guard (k := 41) (L := 70) (f := lc_f41) lc_r41 pc
theorem lc_q42 : lc_QP 42 := fun pc => lc_guard (k := 42) (L := 101) (f := lc_f42) lc_r42 pc
theorem lc_q43 : lc_QP 43 := fun pc => lc_guard (k := 43) (L := 41) (f := lc_f43) lc_r43 pc
theorem lc_q44 : lc_QP 44 := fun pc => lc_guard (k := 44) (L := 121) (f := lc_f44) lc_r44 pc
theorem lc_q45 : lc_QP 45 := fun pc => lc_guard (k := 45) (L := 99) (f := lc_f45) lc_r45 pc
theorem lc_q46 : lc_QP 46 := fun pc => lc_guard (k := 46) (L := 60) (f := lc_f46) lc_r46 pc
theorem lc_q47 : lc_QP 47 := fun pc => lc_guard (k := 47) (L := 19) (f := lc_f47) lc_r47 pc
theorem lc_q48 : lc_QP 48 := fun pc => lc_guard (k := 48) (L := 21) (f := lc_f48) lc_r48 pc
theorem lc_q49 : lc_QP 49 := fun pc => lc_guard (k := 49) (L := 71) (f := lc_f49) lc_r49 pc
theorem lc_q50 : lc_QP 50 := fun pc => lc_guard (k := 50) (L := 74) (f := lc_f50) lc_r50 pc
theorem lc_q51 : lc_QP 51 := fun pc => lc_guard (k := 51) (L := 86) (f := lc_f51) lc_r51 pc
theorem lc_q52 : lc_QP 52 := fun pc => lc_guard (k := 52) (L := 37) (f := lc_f52) lc_r52 pc
theorem lc_q53 : lc_QP 53 := fun pc => lc_guard (k := 53) (L := 39) (f := lc_f53) lc_r53 pc
theorem lc_q54 : lc_QP 54 := fun pc => lc_guard (k := 54) (L := 154) (f := lc_f54) lc_r54 pc
theorem lc_q55 : lc_QP 55 := fun pc => lc_guard (k := 55) (L := 141) (f := lc_f55) lc_r55 pc
theorem lc_q56 : lc_QP 56 := fun pc => lc_guard (k := 56) (L := 58) (f := lc_f56) lc_r56 pc
theorem lc_q57 : lc_QP 57 := fun pc => lc_guard (k := 57) (L := 39) (f := lc_f57) lc_r57 pc
theorem lc_q58 : lc_QP 58 := fun pc => lc_guard (k := 58) (L := 18) (f := lc_f58) lc_r58 pc
theorem lc_q59 : lc_QP 59 := fun pc => lc_guard (k := 59) (L := 18) (f := lc_f59) lc_r59 pc
theorem lc_q60 : lc_QP 60 := fun pc => lc_guard (k := 60) (L := 45) (f := lc_f60) lc_r60 pc
theorem lc_q61 : lc_QP 61 := fun pc => lc_guard (k := 61) (L := 51) (f := lc_f61) lc_r61 pc
theorem lc_q62 : lc_QP 62 := fun pc => lc_guard (k := 62) (L := 80) (f := lc_f62) lc_r62 pc
theorem lc_q63 : lc_QP 63 := fun pc => lc_guard (k := 63) (L := 45) (f := lc_f63) lc_r63 pc
theorem lc_q64 : lc_QP 64 := fun pc => lc_guard (k := 64) (L := 77) (f := lc_f64) lc_r64 pc
theorem lc_q65 : lc_QP 65 := fun pc => lc_guard (k := 65) (L := 14) (f := lc_f65) lc_r65 pc
theorem lc_q66 : lc_QP 66 := fun pc => lc_guard (k := 66) (L := 11) (f := lc_f66) lc_r66 pc
theorem lc_q67 : lc_QP 67 := fun pc => lc_guard (k := 67) (L := 53) (f := lc_f67) lc_r67 pc
theorem lc_q68 : lc_QP 68 := fun pc => lc_guard (k := 68) (L := 53) (f := lc_f68) lc_r68 pc
theorem lc_q69 : lc_QP 69 := fun pc => lc_guard (k := 69) (L := 26) (f := lc_f69) lc_r69 pc
theorem lc_q70 : lc_QP 70 := fun pc => lc_guard (k := 70) (L := 13) (f := lc_f70) lc_r70 pc
theorem lc_q71 : lc_QP 71 := fun pc => lc_guard (k := 71) (L := 35) (f := lc_f71) lc_r71 pc
theorem lc_q72 : lc_QP 72 := fun pc => lc_guard (k := 72) (L := 62) (f := lc_f72) lc_r72 pc
theorem lc_q73 : lc_QP 73 := fun pc => lc_guard (k := 73) (L := 166) (f := lc_f73) lc_r73 pc
theorem lc_q74 : lc_QP 74 := fun pc => lc_guard (k := 74) (L := 46) (f := lc_f74) lc_r74 pc
theorem lc_q75 : lc_QP 75 := fun pc => lc_guard (k := 75) (L := 86) (f := lc_f75) lc_r75 pc
theorem lc_q76 : lc_QP 76 := fun pc => lc_guard (k := 76) (L := 8) (f := lc_f76) lc_r76 pc
theorem lc_q77 : lc_QP 77 := fun pc => lc_guard (k := 77) (L := 187) (f := lc_f77) lc_r77 pc
theorem lc_q78 : lc_QP 78 := fun pc => lc_guard (k := 78) (L := 89) (f := lc_f78) lc_r78 pc
theorem lc_q79 : lc_QP 79 := fun pc => lc_guard (k := 79) (L := 119) (f := lc_f79) lc_r79 pc
theorem lc_q80 : lc_QP 80 := fun pc => lc_guard (k := 80) (L := 55) (f := lc_f80) lc_r80 pc
theorem lc_q81 : lc_QP 81 := fun pc => lc_guard (k := 81) (L := 54) (f := lc_f81) lc_r81 pc
theorem lc_q82 : lc_QP 82 := fun pc => lc_guard (k := 82) (L := 40) (f := lc_f82) lc_r82 pc
theorem lc_q83 : lc_QP 83 := fun pc => lc_guard (k := 83) (L := 100) (f := lc_f83) lc_r83 pc
theorem lc_q84 : lc_QP 84 := fun pc => lc_guard (k := 84) (L := 95) (f := lc_f84) lc_r84 pc
theorem lc_q85 : lc_QP 85 := fun pc => lc_guard (k := 85) (L := 51) (f := lc_f85) lc_r85 pc
theorem lc_q86 : lc_QP 86 := fun pc => lc_guard (k := 86) (L := 61) (f := lc_f86) lc_r86 pc
theorem lc_q87 : lc_QP 87 := fun pc => lc_guard (k := 87) (L := 53) (f := lc_f87) lc_r87 pc
theorem lc_q88 : lc_QP 88 := fun pc => lc_guard (k := 88) (L := 70) (f := lc_f88) lc_r88 pc
theorem lc_q89 : lc_QP 89 := fun pc => lc_guard (k := 89) (L := 46) (f := lc_f89) lc_r89 pc
theorem lc_q90 : lc_QP 90 := fun pc => lc_guard (k := 90) (L := 74) (f := lc_f90) lc_r90 pc
theorem lc_q91 : lc_QP 91 := fun pc => lc_guard (k := 91) (L := 47) (f := lc_f91) lc_r91 pc
theorem lc_q92 : lc_QP 92 := fun pc => lc_guard (k := 92) (L := 58) (f := lc_f92) lc_r92 pc
theorem lc_q93 : lc_QP 93 := fun pc => lc_guard (k := 93) (L := 64) (f := lc_f93) lc_r93 pc
theorem lc_q94 : lc_QP 94 := fun pc => lc_guard (k := 94) (L := 11) (f := lc_f94) lc_r94 pc
theorem lc_q95 : lc_QP 95 := fun pc => lc_guard (k := 95) (L := 49) (f := lc_f95) lc_r95 pc
theorem lc_q96 : lc_QP 96 := fun pc => lc_guard (k := 96) (L := 15) (f := lc_f96) lc_r96 pc
theorem lc_q97 : lc_QP 97 := fun pc => lc_guard (k := 97) (L := 59) (f := lc_f97) lc_r97 pc
theorem lc_q98 : lc_QP 98 := fun pc => lc_guard (k := 98) (L := 89) (f := lc_f98) lc_r98 pc
theorem lc_q99 : lc_QP 99 := fun pc => lc_guard (k := 99) (L := 64) (f := lc_f99) lc_r99 pc
theorem lc_q100 : lc_QP 100 := fun pc => lc_guard (k := 100) (L := 11) (f := lc_f100) lc_r100 pc
theorem lc_q101 : lc_QP 101 := fun pc => lc_guard (k := 101) (L := 15) (f := lc_f101) lc_r101 pc
theorem lc_q102 : lc_QP 102 := fun pc => lc_guard (k := 102) (L := 32) (f := lc_f102) lc_r102 pc
theorem lc_q103 : lc_QP 103 := fun pc => lc_guard (k := 103) (L := 19) (f := lc_f103) lc_r103 pc
theorem lc_q104 : lc_QP 104 := fun pc => lc_guard (k := 104) (L := 37) (f := lc_f104) lc_r104 pc
theorem lc_q105 : lc_QP 105 := fun pc => lc_guard (k := 105) (L := 63) (f := lc_f105) lc_r105 pc
theorem lc_q106 : lc_QP 106 := fun pc => lc_guard (k := 106) (L := 19) (f := lc_f106) lc_r106 pc
theorem lc_q107 : lc_QP 107 := fun pc => lc_guard (k := 107) (L := 15) (f := lc_f107) lc_r107 pc
theorem lc_q108 : lc_QP 108 := fun pc => lc_guard (k := 108) (L := 23) (f := lc_f108) lc_r108 pc
theorem lc_q109 : lc_QP 109 := fun pc => lc_guard (k := 109) (L := 19) (f := lc_f109) lc_r109 pc
theorem lc_q110 : lc_QP 110 := fun pc => lc_guard (k := 110) (L := 50) (f := lc_f110) lc_r110 pc
theorem lc_q111 : lc_QP 111 := fun pc => lc_guard (k := 111) (L := 39) (f := lc_f111) lc_r111 pc
theorem lc_q112 : lc_QP 112 := fun pc => lc_guard (k := 112) (L := 34) (f := lc_f112) lc_r112 pc
theorem lc_q113 : lc_QP 113 := fun pc => lc_guard (k := 113) (L := 50) (f := lc_f113) lc_r113 pc
theorem lc_q114 : lc_QP 114 := fun pc => lc_guard (k := 114) (L := 50) (f := lc_f114) lc_r114 pc
theorem lc_q115 : lc_QP 115 := fun pc => lc_guard (k := 115) (L := 131) (f := lc_f115) lc_r115 pc
theorem lc_q116 : lc_QP 116 := fun pc => lc_guard (k := 116) (L := 19) (f := lc_f116) lc_r116 pc
theorem lc_q117 : lc_QP 117 := fun pc => lc_guard (k := 117) (L := 10) (f := lc_f117) lc_r117 pc
theorem lc_q118 : lc_QP 118 := fun pc => lc_guard (k := 118) (L := 15) (f := lc_f118) lc_r118 pc
theorem lc_q119 : lc_QP 119 := fun pc => lc_guard (k := 119) (L := 26) (f := lc_f119) lc_r119 pc
theorem lc_q120 : lc_QP 120 := fun pc => lc_guard (k := 120) (L := 53) (f := lc_f120) lc_r120 pc
theorem lc_q121 : lc_QP 121 := fun pc => lc_guard (k := 121) (L := 63) (f := lc_f121) lc_r121 pc
theorem lc_q122 : lc_QP 122 := fun pc => lc_guard (k := 122) (L := 34) (f := lc_f122) lc_r122 pc
theorem lc_q123 : lc_QP 123 := fun pc => lc_guard (k := 123) (L := 153) (f := lc_f123) lc_r123 pc
theorem lc_q124 : lc_QP 124 := fun pc => lc_guard (k := 124) (L := 42) (f := lc_f124) lc_r124 pc
theorem lc_q125 : lc_QP 125 := fun pc => lc_guard (k := 125) (L := 43) (f := lc_f125) lc_r125 pc
theorem lc_q126 : lc_QP 126 := fun pc => lc_guard (k := 126) (L := 52) (f := lc_f126) lc_r126 pc
theorem lc_q127 : lc_QP 127 := fun pc => lc_guard (k := 127) (L := 189) (f := lc_f127) lc_r127 pc
theorem lc_q128 : lc_QP 128 := fun pc => lc_guard (k := 128) (L := 102) (f := lc_f128) lc_r128 pc
theorem lc_q129 : lc_QP 129 := fun pc => lc_guard (k := 129) (L := 128) (f := lc_f129) lc_r129 pc
theorem lc_q130 : lc_QP 130 := fun pc => lc_guard (k := 130) (L := 210) (f := lc_f130) lc_r130 pc
theorem lc_q131 : lc_QP 131 := fun pc => lc_guard (k := 131) (L := 5) (f := lc_f131) lc_r131 pc
theorem lc_q132 : lc_QP 132 := fun pc => lc_guard (k := 132) (L := 14) (f := lc_f132) lc_r132 pc
theorem lc_q133 : lc_QP 133 := fun pc => lc_guard (k := 133) (L := 14) (f := lc_f133) lc_r133 pc
theorem lc_q134 : lc_QP 134 := fun pc => lc_guard (k := 134) (L := 52) (f := lc_f134) lc_r134 pc
theorem lc_q135 : lc_QP 135 := fun pc => lc_guard (k := 135) (L := 32) (f := lc_f135) lc_r135 pc
theorem lc_q136 : lc_QP 136 := fun pc => lc_guard (k := 136) (L := 145) (f := lc_f136) lc_r136 pc
theorem lc_q137 : lc_QP 137 := fun pc => lc_guard (k := 137) (L := 67) (f := lc_f137) lc_r137 pc
theorem lc_q138 : lc_QP 138 := fun pc => lc_guard (k := 138) (L := 72) (f := lc_f138) lc_r138 pc
theorem lc_q139 : lc_QP 139 := fun pc => lc_guard (k := 139) (L := 103) (f := lc_f139) lc_r139 pc
theorem lc_q140 : lc_QP 140 := fun pc => lc_guard (k := 140) (L := 37) (f := lc_f140) lc_r140 pc
theorem lc_q141 : lc_QP 141 := fun pc => lc_guard (k := 141) (L := 125) (f := lc_f141) lc_r141 pc
theorem lc_q142 : lc_QP 142 := fun pc => lc_guard (k := 142) (L := 102) (f := lc_f142) lc_r142 pc
theorem lc_q143 : lc_QP 143 := fun pc => lc_guard (k := 143) (L := 40) (f := lc_f143) lc_r143 pc
theorem lc_q144 : lc_QP 144 := fun pc => lc_guard (k := 144) (L := 51) (f := lc_f144) lc_r144 pc
theorem lc_q145 : lc_QP 145 := fun pc => lc_guard (k := 145) (L := 160) (f := lc_f145) lc_r145 pc
theorem lc_q146 : lc_QP 146 := fun pc => lc_guard (k := 146) (L := 31) (f := lc_f146) lc_r146 pc
theorem lc_q147 : lc_QP 147 := fun pc => lc_guard (k := 147) (L := 79) (f := lc_f147) lc_r147 pc
theorem lc_q148 : lc_QP 148 := fun pc => lc_guard (k := 148) (L := 47) (f := lc_f148) lc_r148 pc
theorem lc_q149 : lc_QP 149 := fun pc => lc_guard (k := 149) (L := 85) (f := lc_f149) lc_r149 pc
theorem lc_q150 : lc_QP 150 := fun pc => lc_guard (k := 150) (L := 48) (f := lc_f150) lc_r150 pc
theorem lc_q151 : lc_QP 151 := fun pc => lc_guard (k := 151) (L := 43) (f := lc_f151) lc_r151 pc
theorem lc_q152 : lc_QP 152 := fun pc => lc_guard (k := 152) (L := 63) (f := lc_f152) lc_r152 pc
theorem lc_q153 : lc_QP 153 := fun pc => lc_guard (k := 153) (L := 41) (f := lc_f153) lc_r153 pc
theorem lc_q154 : lc_QP 154 := fun pc => lc_guard (k := 154) (L := 85) (f := lc_f154) lc_r154 pc
theorem lc_q155 : lc_QP 155 := fun pc => lc_guard (k := 155) (L := 75) (f := lc_f155) lc_r155 pc
theorem lc_q156 : lc_QP 156 := fun pc => lc_guard (k := 156) (L := 54) (f := lc_f156) lc_r156 pc
theorem lc_q157 : lc_QP 157 := fun pc => lc_guard (k := 157) (L := 27) (f := lc_f157) lc_r157 pc
theorem lc_q158 : lc_QP 158 := fun pc => lc_guard (k := 158) (L := 110) (f := lc_f158) lc_r158 pc
theorem lc_q159 : lc_QP 159 := fun pc => lc_guard (k := 159) (L := 45) (f := lc_f159) lc_r159 pc
theorem lc_q160 : lc_QP 160 := fun pc => lc_guard (k := 160) (L := 24) (f := lc_f160) lc_r160 pc
theorem lc_q161 : lc_QP 161 := fun pc => lc_guard (k := 161) (L := 42) (f := lc_f161) lc_r161 pc
theorem lc_q162 : lc_QP 162 := fun pc => lc_guard (k := 162) (L := 71) (f := lc_f162) lc_r162 pc
theorem lc_q163 : lc_QP 163 := fun pc => lc_guard (k := 163) (L := 20) (f := lc_f163) lc_r163 pc
theorem lc_q164 : lc_QP 164 := fun pc => lc_guard (k := 164) (L := 62) (f := lc_f164) lc_r164 pc
theorem lc_q165 : lc_QP 165 := fun pc => lc_guard (k := 165) (L := 58) (f := lc_f165) lc_r165 pc
theorem lc_q166 : lc_QP 166 := fun pc => lc_guard (k := 166) (L := 93) (f := lc_f166) lc_r166 pc
theorem lc_q167 : lc_QP 167 := fun pc => lc_guard (k := 167) (L := 56) (f := lc_f167) lc_r167 pc
theorem lc_q168 : lc_QP 168 := fun pc => lc_guard (k := 168) (L := 44) (f := lc_f168) lc_r168 pc
theorem lc_q169 : lc_QP 169 := fun pc => lc_guard (k := 169) (L := 90) (f := lc_f169) lc_r169 pc
theorem lc_q170 : lc_QP 170 := fun pc => lc_guard (k := 170) (L := 43) (f := lc_f170) lc_r170 pc
theorem lc_q171 : lc_QP 171 := fun pc => lc_guard (k := 171) (L := 62) (f := lc_f171) lc_r171 pc
theorem lc_q172 : lc_QP 172 := fun pc => lc_guard (k := 172) (L := 125) (f := lc_f172) lc_r172 pc
theorem lc_q173 : lc_QP 173 := fun pc => lc_guard (k := 173) (L := 22) (f := lc_f173) lc_r173 pc
theorem lc_q174 : lc_QP 174 := fun pc => lc_guard (k := 174) (L := 59) (f := lc_f174) lc_r174 pc
theorem lc_q175 : lc_QP 175 := fun pc => lc_guard (k := 175) (L := 53) (f := lc_f175) lc_r175 pc
theorem lc_q176 : lc_QP 176 := fun pc => lc_guard (k := 176) (L := 65) (f := lc_f176) lc_r176 pc
theorem lc_q177 : lc_QP 177 := fun pc => lc_guard (k := 177) (L := 42) (f := lc_f177) lc_r177 pc
theorem lc_q178 : lc_QP 178 := fun pc => lc_guard (k := 178) (L := 35) (f := lc_f178) lc_r178 pc
theorem lc_q179 : lc_QP 179 := fun pc => lc_guard (k := 179) (L := 94) (f := lc_f179) lc_r179 pc
theorem lc_q180 : lc_QP 180 := fun pc => lc_guard (k := 180) (L := 44) (f := lc_f180) lc_r180 pc
theorem lc_q181 : lc_QP 181 := fun pc => lc_guard (k := 181) (L := 86) (f := lc_f181) lc_r181 pc
theorem lc_q182 : lc_QP 182 := fun pc => lc_guard (k := 182) (L := 70) (f := lc_f182) lc_r182 pc
theorem lc_q183 : lc_QP 183 := fun pc => lc_guard (k := 183) (L := 59) (f := lc_f183) lc_r183 pc
theorem lc_q184 : lc_QP 184 := fun pc => lc_guard (k := 184) (L := 40) (f := lc_f184) lc_r184 pc
theorem lc_q185 : lc_QP 185 := fun pc => lc_guard (k := 185) (L := 22) (f := lc_f185) lc_r185 pc
theorem lc_q186 : lc_QP 186 := fun pc => lc_guard (k := 186) (L := 25) (f := lc_f186) lc_r186 pc
theorem lc_q187 : lc_QP 187 := fun pc => lc_guard (k := 187) (L := 39) (f := lc_f187) lc_r187 pc
theorem lc_q188 : lc_QP 188 := fun pc => lc_guard (k := 188) (L := 44) (f := lc_f188) lc_r188 pc
theorem lc_q189 : lc_QP 189 := fun pc => lc_guard (k := 189) (L := 53) (f := lc_f189) lc_r189 pc
theorem lc_qa_16 : ∀ a, a < 16 → lc_QP a := (lt_s (i := 15) (p := lc_QP) (lt_s (i := 14) (p := lc_QP) (lt_s (i := 13) (p := lc_QP) (lt_s (i := 12) (p := lc_QP) (lt_s (i := 11) (p := lc_QP) (lt_s (i := 10) (p := lc_QP) (lt_s (i := 9) (p := lc_QP) (lt_s (i := 8) (p := lc_QP) (lt_s (i := 7) (p := lc_QP) (lt_s (i := 6) (p := lc_QP) (lt_s (i := 5) (p := lc_QP) (lt_s (i := 4) (p := lc_QP) (lt_s (i := 3) (p := lc_QP) (lt_s (i := 2) (p := lc_QP) (lt_s (i := 1) (p := lc_QP) (lt_s (i := 0) (p := lc_QP) (lt_0 (p := lc_QP)) lc_q0) lc_q1) lc_q2) lc_q3) lc_q4) lc_q5) lc_q6) lc_q7) lc_q8) lc_q9) lc_q10) lc_q11) lc_q12) lc_q13) lc_q14) lc_q15)
theorem lc_qa_32 : ∀ a, a < 32 → lc_QP a := (lt_s (i := 31) (p := lc_QP) (lt_s (i := 30) (p := lc_QP) (lt_s (i := 29) (p := lc_QP) (lt_s (i := 28) (p := lc_QP) (lt_s (i := 27) (p := lc_QP) (lt_s (i := 26) (p := lc_QP) (lt_s (i := 25) (p := lc_QP) (lt_s (i := 24) (p := lc_QP) (lt_s (i := 23) (p := lc_QP) (lt_s (i := 22) (p := lc_QP) (lt_s (i := 21) (p := lc_QP) (lt_s (i := 20) (p := lc_QP) (lt_s (i := 19) (p := lc_QP) (lt_s (i := 18) (p := lc_QP) (lt_s (i := 17) (p := lc_QP) (lt_s (i := 16) (p := lc_QP) lc_qa_16 lc_q16) lc_q17) lc_q18) lc_q19) lc_q20) lc_q21) lc_q22) lc_q23) lc_q24) lc_q25) lc_q26) lc_q27) lc_q28) lc_q29) lc_q30) lc_q31)
theorem lc_qa_48 : ∀ a, a < 48 → lc_QP a := (lt_s (i := 47) (p := lc_QP) (lt_s (i := 46) (p := lc_QP) (lt_s (i := 45) (p := lc_QP) (lt_s (i := 44) (p := lc_QP) (lt_s (i := 43) (p := lc_QP) (lt_s (i := 42) (p := lc_QP) (lt_s (i := 41) (p := lc_QP) (lt_s (i := 40) (p := lc_QP) (lt_s (i := 39) (p := lc_QP) (lt_s (i := 38) (p := lc_QP) (lt_s (i := 37) (p := lc_QP) (lt_s (i := 36) (p := lc_QP) (lt_s (i := 35) (p := lc_QP) (lt_s (i := 34) (p := lc_QP) (lt_s (i := 33) (p := lc_QP) (lt_s (i := 32) (p := lc_QP) lc_qa_32 lc_q32) lc_q33) lc_q34) lc_q35) lc_q36) lc_q37) lc_q38) lc_q39) lc_q40) lc_q41) lc_q42) lc_q43) lc_q44) lc_q45) lc_q46) lc_q47)
theorem lc_qa_64 : ∀ a, a < 64 → lc_QP a := (lt_s (i := 63) (p := lc_QP) (lt_s (i := 62) (p := lc_QP) (lt_s (i := 61) (p := lc_QP) (lt_s (i := 60) (p := lc_QP) (lt_s (i := 59) (p := lc_QP) (lt_s (i := 58) (p := lc_QP) (lt_s (i := 57) (p := lc_QP) (lt_s (i := 56) (p := lc_QP) (lt_s (i := 55) (p := lc_QP) (lt_s (i := 54) (p := lc_QP) (lt_s (i := 53) (p := lc_QP) (lt_s (i := 52) (p := lc_QP) (lt_s (i := 51) (p := lc_QP) (lt_s (i := 50) (p := lc_QP) (lt_s (i := 49) (p := lc_QP) (lt_s (i := 48) (p := lc_QP) lc_qa_48 lc_q48) lc_q49) lc_q50) lc_q51) lc_q52) lc_q53) lc_q54) lc_q55) lc_q56) lc_q57) lc_q58) lc_q59) lc_q60) lc_q61) lc_q62) lc_q63)
theorem lc_qa_80 : ∀ a, a < 80 → lc_QP a := (lt_s (i := 79) (p := lc_QP) (lt_s (i := 78) (p := lc_QP) (lt_s (i := 77) (p := lc_QP) (lt_s (i := 76) (p := lc_QP) (lt_s (i := 75) (p := lc_QP) (lt_s (i := 74) (p := lc_QP) (lt_s (i := 73) (p := lc_QP) (lt_s (i := 72) (p := lc_QP) (lt_s (i := 71) (p := lc_QP) (lt_s (i := 70) (p := lc_QP) (lt_s (i := 69) (p := lc_QP) (lt_s (i := 68) (p := lc_QP) (lt_s (i := 67) (p := lc_QP) (lt_s (i := 66) (p := lc_QP) (lt_s (i := 65) (p := lc_QP) (lt_s (i := 64) (p := lc_QP) lc_qa_64 lc_q64) lc_q65) lc_q66) lc_q67) lc_q68) lc_q69) lc_q70) lc_q71) lc_q72) lc_q73) lc_q74) lc_q75) lc_q76) lc_q77) lc_q78) lc_q79)
theorem lc_qa_96 : ∀ a, a < 96 → lc_QP a := (lt_s (i := 95) (p := lc_QP) (lt_s (i := 94) (p := lc_QP) (lt_s (i := 93) (p := lc_QP) (lt_s (i := 92) (p := lc_QP) (lt_s (i := 91) (p := lc_QP) (lt_s (i := 90) (p := lc_QP) (lt_s (i := 89) (p := lc_QP) (lt_s (i := 88) (p := lc_QP) (lt_s (i := 87) (p := lc_QP) (lt_s (i := 86) (p := lc_QP) (lt_s (i := 85) (p := lc_QP) (lt_s (i := 84) (p := lc_QP) (lt_s (i := 83) (p := lc_QP) (lt_s (i := 82) (p := lc_QP) (lt_s (i := 81) (p := lc_QP) (lt_s (i := 80) (p := lc_QP) lc_qa_80 lc_q80) lc_q81) lc_q82) lc_q83) lc_q84) lc_q85) lc_q86) lc_q87) lc_q88) lc_q89) lc_q90) lc_q91) lc_q92) lc_q93) lc_q94) lc_q95)
theorem lc_qa_112 : ∀ a, a < 112 → lc_QP a := (lt_s (i := 111) (p := lc_QP) (lt_s (i := 110) (p := lc_QP) (lt_s (i := 109) (p := lc_QP) (lt_s (i := 108) (p := lc_QP) (lt_s (i := 107) (p := lc_QP) (lt_s (i := 106) (p := lc_QP) (lt_s (i := 105) (p := lc_QP) (lt_s (i := 104) (p := lc_QP) (lt_s (i := 103) (p := lc_QP) (lt_s (i := 102) (p := lc_QP) (lt_s (i := 101) (p := lc_QP) (lt_s (i := 100) (p := lc_QP) (lt_s (i := 99) (p := lc_QP) (lt_s (i := 98) (p := lc_QP) (lt_s (i := 97) (p := lc_QP) (lt_s (i := 96) (p := lc_QP) lc_qa_96 lc_q96) lc_q97) lc_q98) lc_q99) lc_q100) lc_q101) lc_q102) lc_q103) lc_q104) lc_q105) lc_q106) lc_q107) lc_q108) lc_q109) lc_q110) lc_q111)
theorem lc_qa_128 : ∀ a, a < 128 → lc_QP a := (lt_s (i := 127) (p := lc_QP) (lt_s (i := 126) (p := lc_QP) (lt_s (i := 125) (p := lc_QP) (lt_s (i := 124) (p := lc_QP) (lt_s (i := 123) (p := lc_QP) (lt_s (i := 122) (p := lc_QP) (lt_s (i := 121) (p := lc_QP) (lt_s (i := 120) (p := lc_QP) (lt_s (i := 119) (p := lc_QP) (lt_s (i := 118) (p := lc_QP) (lt_s (i := 117) (p := lc_QP) (lt_s (i := 116) (p := lc_QP) (lt_s (i := 115) (p := lc_QP) (lt_s (i := 114) (p := lc_QP) (lt_s (i := 113) (p := lc_QP) (lt_s (i := 112) (p := lc_QP) lc_qa_112 lc_q112) lc_q113) lc_q114) lc_q115) lc_q116) lc_q117) lc_q118) lc_q119) lc_q120) lc_q121) lc_q122) lc_q123) lc_q124) lc_q125) lc_q126) lc_q127)
theorem lc_qa_144 : ∀ a, a < 144 → lc_QP a := (lt_s (i := 143) (p := lc_QP) (lt_s (i := 142) (p := lc_QP) (lt_s (i := 141) (p := lc_QP) (lt_s (i := 140) (p := lc_QP) (lt_s (i := 139) (p := lc_QP) (lt_s (i := 138) (p := lc_QP) (lt_s (i := 137) (p := lc_QP) (lt_s (i := 136) (p := lc_QP) (lt_s (i := 135) (p := lc_QP) (lt_s (i := 134) (p := lc_QP) (lt_s (i := 133) (p := lc_QP) (lt_s (i := 132) (p := lc_QP) (lt_s (i := 131) (p := lc_QP) (lt_s (i := 130) (p := lc_QP) (lt_s (i := 129) (p := lc_QP) (lt_s (i := 128) (p := lc_QP) lc_qa_128 lc_q128) lc_q129) lc_q130) lc_q131) lc_q132) lc_q133) lc_q134) lc_q135) lc_q136) lc_q137) lc_q138) lc_q139) lc_q140) lc_q141) lc_q142) lc_q143)
theorem lc_qa_160 : ∀ a, a < 160 → lc_QP a := (lt_s (i := 159) (p := lc_QP) (lt_s (i := 158) (p := lc_QP) (lt_s (i := 157) (p := lc_QP) (lt_s (i := 156) (p := lc_QP) (lt_s (i := 155) (p := lc_QP) (lt_s (i := 154) (p := lc_QP) (lt_s (i := 153) (p := lc_QP) (lt_s (i := 152) (p := lc_QP) (lt_s (i := 151) (p := lc_QP) (lt_s (i := 150) (p := lc_QP) (lt_s (i := 149) (p := lc_QP) (lt_s (i := 148) (p := lc_QP) (lt_s (i := 147) (p := lc_QP) (lt_s (i := 146) (p := lc_QP) (lt_s (i := 145) (p := lc_QP) (lt_s (i := 144) (p := lc_QP) lc_qa_144 lc_q144) lc_q145) lc_q146) lc_q147) lc_q148) lc_q149) lc_q150) lc_q151) lc_q152) lc_q153) lc_q154) lc_q155) lc_q156) lc_q157) lc_q158) lc_q159)
theorem lc_qa_176 : ∀ a, a < 176 → lc_QP a := (lt_s (i := 175) (p := lc_QP) (lt_s (i := 174) (p := lc_QP) (lt_s (i := 173) (p := lc_QP) (lt_s (i := 172) (p := lc_QP) (lt_s (i := 171) (p := lc_QP) (lt_s (i := 170) (p := lc_QP) (lt_s (i := 169) (p := lc_QP) (lt_s (i := 168) (p := lc_QP) (lt_s (i := 167) (p := lc_QP) (lt_s (i := 166) (p := lc_QP) (lt_s (i := 165) (p := lc_QP) (lt_s (i := 164) (p := lc_QP) (lt_s (i := 163) (p := lc_QP) (lt_s (i := 162) (p := lc_QP) (lt_s (i := 161) (p := lc_QP) (lt_s (i := 160) (p := lc_QP) lc_qa_160 lc_q160) lc_q161) lc_q162) lc_q163) lc_q164) lc_q165) lc_q166) lc_q167) lc_q168) lc_q169) lc_q170) lc_q171) lc_q172) lc_q173) lc_q174) lc_q175)
theorem lc_qa_190 : ∀ a, a < 190 → lc_QP a := (lt_s (i := 189) (p := lc_QP) (lt_s (i := 188) (p := lc_QP) (lt_s (i := 187) (p := lc_QP) (lt_s (i := 186) (p := lc_QP) (lt_s (i := 185) (p := lc_QP) (lt_s (i := 184) (p := lc_QP) (lt_s (i := 183) (p := lc_QP) (lt_s (i := 182) (p := lc_QP) (lt_s (i := 181) (p := lc_QP) (lt_s (i := 180) (p := lc_QP) (lt_s (i := 179) (p := lc_QP) (lt_s (i := 178) (p := lc_QP) (lt_s (i := 177) (p := lc_QP) (lt_s (i := 176) (p := lc_QP) lc_qa_176 lc_q176) lc_q177) lc_q178) lc_q179) lc_q180) lc_q181) lc_q182) lc_q183) lc_q184) lc_q185) lc_q186) lc_q187) lc_q188) lc_q189)
theorem lc_qa : ∀ k, k < lc_NM → lc_QP k := lc_qa_190
theorem lc_ma_16 : ∀ a, a < 16 → lc_MP a := (lt_s (i := 15) (p := lc_MP) (lt_s (i := 14) (p := lc_MP) (lt_s (i := 13) (p := lc_MP) (lt_s (i := 12) (p := lc_MP) (lt_s (i := 11) (p := lc_MP) (lt_s (i := 10) (p := lc_MP) (lt_s (i := 9) (p := lc_MP) (lt_s (i := 8) (p := lc_MP) (lt_s (i := 7) (p := lc_MP) (lt_s (i := 6) (p := lc_MP) (lt_s (i := 5) (p := lc_MP) (lt_s (i := 4) (p := lc_MP) (lt_s (i := 3) (p := lc_MP) (lt_s (i := 2) (p := lc_MP) (lt_s (i := 1) (p := lc_MP) (lt_s (i := 0) (p := lc_MP) (lt_0 (p := lc_MP)) lc_m0) lc_m1) lc_m2) lc_m3) lc_m4) lc_m5) lc_m6) lc_m7) lc_m8) lc_m9) lc_m10) lc_m11) lc_m12) lc_m13) lc_m14) lc_m15)
theorem lc_ma_32 : ∀ a, a < 32 → lc_MP a := (lt_s (i := 31) (p := lc_MP) (lt_s (i := 30) (p := lc_MP) (lt_s (i := 29) (p := lc_MP) (lt_s (i := 28) (p := lc_MP) (lt_s (i := 27) (p := lc_MP) (lt_s (i := 26) (p := lc_MP) (lt_s (i := 25) (p := lc_MP) (lt_s (i := 24) (p := lc_MP) (lt_s (i := 23) (p := lc_MP) (lt_s (i := 22) (p := lc_MP) (lt_s (i := 21) (p := lc_MP) (lt_s (i := 20) (p := lc_MP) (lt_s (i := 19) (p := lc_MP) (lt_s (i := 18) (p := lc_MP) (lt_s (i := 17) (p := lc_MP) (lt_s (i := 16) (p := lc_MP) lc_ma_16 lc_m16) lc_m17) lc_m18) lc_m19) lc_m20) lc_m21) lc_m22) lc_m23) lc_m24) lc_m25) lc_m26) lc_m27) lc_m28) lc_m29) lc_m30) lc_m31)
theorem lc_ma_48 : ∀ a, a < 48 → lc_MP a := (lt_s (i := 47) (p := lc_MP) (lt_s (i := 46) (p := lc_MP) (lt_s (i := 45) (p := lc_MP) (lt_s (i := 44) (p := lc_MP) (lt_s (i := 43) (p := lc_MP) (lt_s (i := 42) (p := lc_MP) (lt_s (i := 41) (p := lc_MP) (lt_s (i := 40) (p := lc_MP) (lt_s (i := 39) (p := lc_MP) (lt_s (i := 38) (p := lc_MP) (lt_s (i := 37) (p := lc_MP) (lt_s (i := 36) (p := lc_MP) (lt_s (i := 35) (p := lc_MP) (lt_s (i := 34) (p := lc_MP) (lt_s (i := 33) (p := lc_MP) (lt_s (i := 32) (p := lc_MP) lc_ma_32 lc_m32) lc_m33) lc_m34) lc_m35) lc_m36) lc_m37) lc_m38) lc_m39) lc_m40) lc_m41) lc_m42) lc_m43) lc_m44) lc_m45) lc_m46) lc_m47)
theorem lc_ma_64 : ∀ a, a < 64 → lc_MP a := (lt_s (i := 63) (p := lc_MP) (lt_s (i := 62) (p := lc_MP) (lt_s (i := 61) (p := lc_MP) (lt_s (i := 60) (p := lc_MP) (lt_s (i := 59) (p := lc_MP) (lt_s (i := 58) (p := lc_MP) (lt_s (i := 57) (p := lc_MP) (lt_s (i := 56) (p := lc_MP) (lt_s (i := 55) (p := lc_MP) (lt_s (i := 54) (p := lc_MP) (lt_s (i := 53) (p := lc_MP) (lt_s (i := 52) (p := lc_MP) (lt_s (i := 51) (p := lc_MP) (lt_s (i := 50) (p := lc_MP) (lt_s (i := 49) (p := lc_MP) (lt_s (i := 48) (p := lc_MP) lc_ma_48 lc_m48) lc_m49) lc_m50) lc_m51) lc_m52) lc_m53) lc_m54) lc_m55) lc_m56) lc_m57) lc_m58) lc_m59) lc_m60) lc_m61) lc_m62) lc_m63)
theorem lc_ma_80 : ∀ a, a < 80 → lc_MP a := (lt_s (i := 79) (p := lc_MP) (lt_s (i := 78) (p := lc_MP) (lt_s (i := 77) (p := lc_MP) (lt_s (i := 76) (p := lc_MP) (lt_s (i := 75) (p := lc_MP) (lt_s (i := 74) (p := lc_MP) (lt_s (i := 73) (p := lc_MP) (lt_s (i := 72) (p := lc_MP) (lt_s (i := 71) (p := lc_MP) (lt_s (i := 70) (p := lc_MP) (lt_s (i := 69) (p := lc_MP) (lt_s (i := 68) (p := lc_MP) (lt_s (i := 67) (p := lc_MP) (lt_s (i := 66) (p := lc_MP) (lt_s (i := 65) (p := lc_MP) (lt_s (i := 64) (p := lc_MP) lc_ma_64 lc_m64) lc_m65) lc_m66) lc_m67) lc_m68) lc_m69) lc_m70) lc_m71) lc_m72) lc_m73) lc_m74) lc_m75) lc_m76) lc_m77) lc_m78) lc_m79)
theorem lc_ma_96 : ∀ a, a < 96 → lc_MP a := (lt_s (i := 95) (p := lc_MP) (lt_s (i := 94) (p := lc_MP) (lt_s (i := 93) (p := lc_MP) (lt_s (i := 92) (p := lc_MP) (lt_s (i := 91) (p := lc_MP) (lt_s (i := 90) (p := lc_MP) (lt_s (i := 89) (p := lc_MP) (lt_s (i := 88) (p := lc_MP) (lt_s (i := 87) (p := lc_MP) (lt_s (i := 86) (p := lc_MP) (lt_s (i := 85) (p := lc_MP) (lt_s (i := 84) (p := lc_MP) (lt_s (i := 83) (p := lc_MP) (lt_s (i := 82) (p := lc_MP) (lt_s (i := 81) (p := lc_MP) (lt_s (i := 80) (p := lc_MP) lc_ma_80 lc_m80) lc_m81) lc_m82) lc_m83) lc_m84) lc_m85) lc_m86) lc_m87) lc_m88) lc_m89) lc_m90) lc_m91) lc_m92) lc_m93) lc_m94) lc_m95)
theorem lc_ma_112 : ∀ a, a < 112 → lc_MP a := (lt_s (i := 111) (p := lc_MP) (lt_s (i := 110) (p := lc_MP) (lt_s (i := 109) (p := lc_MP) (lt_s (i := 108) (p := lc_MP) (lt_s (i := 107) (p := lc_MP) (lt_s (i := 106) (p := lc_MP) (lt_s (i := 105) (p := lc_MP) (lt_s (i := 104) (p := lc_MP) (lt_s (i := 103) (p := lc_MP) (lt_s (i := 102) (p := lc_MP) (lt_s (i := 101) (p := lc_MP) (lt_s (i := 100) (p := lc_MP) (lt_s (i := 99) (p := lc_MP) (lt_s (i := 98) (p := lc_MP) (lt_s (i := 97) (p := lc_MP) (lt_s (i := 96) (p := lc_MP) lc_ma_96 lc_m96) lc_m97) lc_m98) lc_m99) lc_m100) lc_m101) lc_m102) lc_m103) lc_m104) lc_m105) lc_m106) lc_m107) lc_m108) lc_m109) lc_m110) lc_m111)
theorem lc_ma_128 : ∀ a, a < 128 → lc_MP a := (lt_s (i := 127) (p := lc_MP) (lt_s (i := 126) (p := lc_MP) (lt_s (i := 125) (p := lc_MP) (lt_s (i := 124) (p := lc_MP) (lt_s (i := 123) (p := lc_MP) (lt_s (i := 122) (p := lc_MP) (lt_s (i := 121) (p := lc_MP) (lt_s (i := 120) (p := lc_MP) (lt_s (i := 119) (p := lc_MP) (lt_s (i := 118) (p := lc_MP) (lt_s (i := 117) (p := lc_MP) (lt_s (i := 116) (p := lc_MP) (lt_s (i := 115) (p := lc_MP) (lt_s (i := 114) (p := lc_MP) (lt_s (i := 113) (p := lc_MP) (lt_s (i := 112) (p := lc_MP) lc_ma_112 lc_m112) lc_m113) lc_m114) lc_m115) lc_m116) lc_m117) lc_m118) lc_m119) lc_m120) lc_m121) lc_m122) lc_m123) lc_m124) lc_m125) lc_m126) lc_m127)
theorem lc_ma_144 : ∀ a, a < 144 → lc_MP a := (lt_s (i := 143) (p := lc_MP) (lt_s (i := 142) (p := lc_MP) (lt_s (i := 141) (p := lc_MP) (lt_s (i := 140) (p := lc_MP) (lt_s (i := 139) (p := lc_MP) (lt_s (i := 138) (p := lc_MP) (lt_s (i := 137) (p := lc_MP) (lt_s (i := 136) (p := lc_MP) (lt_s (i := 135) (p := lc_MP) (lt_s (i := 134) (p := lc_MP) (lt_s (i := 133) (p := lc_MP) (lt_s (i := 132) (p := lc_MP) (lt_s (i := 131) (p := lc_MP) (lt_s (i := 130) (p := lc_MP) (lt_s (i := 129) (p := lc_MP) (lt_s (i := 128) (p := lc_MP) lc_ma_128 lc_m128) lc_m129) lc_m130) lc_m131) lc_m132) lc_m133) lc_m134) lc_m135) lc_m136) lc_m137) lc_m138) lc_m139) lc_m140) lc_m141) lc_m142) lc_m143)
theorem lc_ma_160 : ∀ a, a < 160 → lc_MP a := (lt_s (i := 159) (p := lc_MP) (lt_s (i := 158) (p := lc_MP) (lt_s (i := 157) (p := lc_MP) (lt_s (i := 156) (p := lc_MP) (lt_s (i := 155) (p := lc_MP) (lt_s (i := 154) (p := lc_MP) (lt_s (i := 153) (p := lc_MP) (lt_s (i := 152) (p := lc_MP) (lt_s (i := 151) (p := lc_MP) (lt_s (i := 150) (p := lc_MP) (lt_s (i := 149) (p := lc_MP) (lt_s (i := 148) (p := lc_MP) (lt_s (i := 147) (p := lc_MP) (lt_s (i := 146) (p := lc_MP) (lt_s (i := 145) (p := lc_MP) (lt_s (i := 144) (p := lc_MP) lc_ma_144 lc_m144) lc_m145) lc_m146) lc_m147) lc_m148) lc_m149) lc_m150) lc_m151) lc_m152) lc_m153) lc_m154) lc_m155) lc_m156) lc_m157) lc_m158) lc_m159)
theorem lc_ma_176 : ∀ a, a < 176 → lc_MP a := (lt_s (i := 175) (p := lc_MP) (lt_s (i := 174) (p := lc_MP) (lt_s (i := 173) (p := lc_MP) (lt_s (i := 172) (p := lc_MP) (lt_s (i := 171) (p := lc_MP) (lt_s (i := 170) (p := lc_MP) (lt_s (i := 169) (p := lc_MP) (lt_s (i := 168) (p := lc_MP) (lt_s (i := 167) (p := lc_MP) (lt_s (i := 166) (p := lc_MP) (lt_s (i := 165) (p := lc_MP) (lt_s (i := 164) (p := lc_MP) (lt_s (i := 163) (p := lc_MP) (lt_s (i := 162) (p := lc_MP) (lt_s (i := 161) (p := lc_MP) (lt_s (i := 160) (p := lc_MP) lc_ma_160 lc_m160) lc_m161) lc_m162) lc_m163) lc_m164) lc_m165) lc_m166) lc_m167) lc_m168) lc_m169) lc_m170) lc_m171) lc_m172) lc_m173) lc_m174) lc_m175)
theorem lc_ma_190 : ∀ a, a < 190 → lc_MP a := (lt_s (i := 189) (p := lc_MP) (lt_s (i := 188) (p := lc_MP) (lt_s (i := 187) (p := lc_MP) (lt_s (i := 186) (p := lc_MP) (lt_s (i := 185) (p := lc_MP) (lt_s (i := 184) (p := lc_MP) (lt_s (i := 183) (p := lc_MP) (lt_s (i := 182) (p := lc_MP) (lt_s (i := 181) (p := lc_MP) (lt_s (i := 180) (p := lc_MP) (lt_s (i := 179) (p := lc_MP) (lt_s (i := 178) (p := lc_MP) (lt_s (i := 177) (p := lc_MP) (lt_s (i := 176) (p := lc_MP) lc_ma_176 lc_m176) lc_m177) lc_m178) lc_m179) lc_m180) lc_m181) lc_m182) lc_m183) lc_m184) lc_m185) lc_m186) lc_m187) lc_m188) lc_m189)
theorem lc_ma : ∀ k, k < lc_NM → lc_MP k := lc_ma_190
theorem lc_allW_in : ∀ (ws : List Cond) (ps : List Nat), lc_allW ws ps = true → ∀ w ∈ ws, w ∈ lw_tbl
  | [], _, _, w, hw => by cases hw
  | w0 :: ws, [], h, w, hw => by cases h
  | w0 :: ws, p :: ps, h, w, hw => by
    simp only [lc_allW, Bool.and_eq_true] at h
    rcases List.mem_cons.mp hw with e | e
    · subst e; exact lc_isW_in h.1
    · exact lc_allW_in ws ps h.2 w e
/-- what is known of each class of the world -/
def lc_Cls (i : Nat) (q : vw_C) : Prop := (∀ w ∈ u_ws q.1 q.2.1 q.2.2, w ∈ lw_tbl) ∧ Cond.instantiable q.1 q.2.2 ∈ lw_tbl ∧ Cond.initialized q.1 ∈ lw_tbl ∧ (∀ a, a < q.2.2 → ∀ b, b < q.2.2 → a ≠ b → (q.2.1 a).2.1 ≠ (q.2.1 b).2.1) ∧ (∀ k, k < q.2.2 → parseFieldDescriptor (q.2.1 k).2.2.1 = some (lc_ty i k)) ∧ (lc_dfl i).length = q.2.2 ∧ ∀ j, j < q.2.2 → defaultValue (lc_ty i j) = vp_V (lc_dfl i) j
theorem lc_cls {i : Nat} {q : vw_C} (h : lc_cl[i]? = some q) : lc_Cls i q := by
  match i, h with
  | 0, h => cases h; exact ⟨lc_allW_in _ _ lc_u0, lc_isW_in lc_i0, lc_isW_in lc_j0, lc_n0, lc_t0, lc_d0.1, lc_d0.2⟩
  | 1, h => cases h; exact ⟨lc_allW_in _ _ lc_u1, lc_isW_in lc_i1, lc_isW_in lc_j1, lc_n1, lc_t1, lc_d1.1, lc_d1.2⟩
  | 2, h => cases h; exact ⟨lc_allW_in _ _ lc_u2, lc_isW_in lc_i2, lc_isW_in lc_j2, lc_n2, lc_t2, lc_d2.1, lc_d2.2⟩
  | 3, h => cases h; exact ⟨lc_allW_in _ _ lc_u3, lc_isW_in lc_i3, lc_isW_in lc_j3, lc_n3, lc_t3, lc_d3.1, lc_d3.2⟩
  | 4, h => cases h; exact ⟨lc_allW_in _ _ lc_u4, lc_isW_in lc_i4, lc_isW_in lc_j4, lc_n4, lc_t4, lc_d4.1, lc_d4.2⟩
  | 5, h => cases h; exact ⟨lc_allW_in _ _ lc_u5, lc_isW_in lc_i5, lc_isW_in lc_j5, lc_n5, lc_t5, lc_d5.1, lc_d5.2⟩
  | 6, h => cases h; exact ⟨lc_allW_in _ _ lc_u6, lc_isW_in lc_i6, lc_isW_in lc_j6, lc_n6, lc_t6, lc_d6.1, lc_d6.2⟩
  | 7, h => cases h; exact ⟨lc_allW_in _ _ lc_u7, lc_isW_in lc_i7, lc_isW_in lc_j7, lc_n7, lc_t7, lc_d7.1, lc_d7.2⟩
  | 8, h => cases h; exact ⟨lc_allW_in _ _ lc_u8, lc_isW_in lc_i8, lc_isW_in lc_j8, lc_n8, lc_t8, lc_d8.1, lc_d8.2⟩
  | 9, h => cases h; exact ⟨lc_allW_in _ _ lc_u9, lc_isW_in lc_i9, lc_isW_in lc_j9, lc_n9, lc_t9, lc_d9.1, lc_d9.2⟩
  | 10, h => cases h; exact ⟨lc_allW_in _ _ lc_u10, lc_isW_in lc_i10, lc_isW_in lc_j10, lc_n10, lc_t10, lc_d10.1, lc_d10.2⟩
  | 11, h => cases h; exact ⟨lc_allW_in _ _ lc_u11, lc_isW_in lc_i11, lc_isW_in lc_j11, lc_n11, lc_t11, lc_d11.1, lc_d11.2⟩
  | i + 12, h => simp [lc_cl] at h
