/-! the rows hold, method by method (gen1.py) -/
theorem lc_m0 : lc_mok 0 = true := by decide +kernel
theorem lc_r0 : ∀ pc, pc < 18 → lc_rok 0 pc (lc_f0 pc) = true := by decide +kernel
theorem lc_m1 : lc_mok 1 = true := by decide +kernel
theorem lc_r1 : ∀ pc, pc < 21 → lc_rok 1 pc (lc_f1 pc) = true := by decide +kernel
theorem lc_m2 : lc_mok 2 = true := by decide +kernel
theorem lc_r2 : ∀ pc, pc < 48 → lc_rok 2 pc (lc_f2 pc) = true := by decide +kernel
theorem lc_m3 : lc_mok 3 = true := by decide +kernel
theorem lc_r3 : ∀ pc, pc < 22 → lc_rok 3 pc (lc_f3 pc) = true := by decide +kernel
theorem lc_m4 : lc_mok 4 = true := by decide +kernel
theorem lc_r4 : ∀ pc, pc < 30 → lc_rok 4 pc (lc_f4 pc) = true := by decide +kernel
theorem lc_m5 : lc_mok 5 = true := by decide +kernel
theorem lc_r5 : ∀ pc, pc < 27 → lc_rok 5 pc (lc_f5 pc) = true := by decide +kernel
theorem lc_m6 : lc_mok 6 = true := by decide +kernel
theorem lc_r6 : ∀ pc, pc < 49 → lc_rok 6 pc (lc_f6 pc) = true := by decide +kernel
theorem lc_m7 : lc_mok 7 = true := by decide +kernel
theorem lc_r7 : ∀ pc, pc < 75 → lc_rok 7 pc (lc_f7 pc) = true := by decide +kernel
theorem lc_m8 : lc_mok 8 = true := by decide +kernel
theorem lc_r8 : ∀ pc, pc < 50 → lc_rok 8 pc (lc_f8 pc) = true := by decide +kernel
theorem lc_m9 : lc_mok 9 = true := by decide +kernel
theorem lc_r9 : ∀ pc, pc < 34 → lc_rok 9 pc (lc_f9 pc) = true := by decide +kernel
theorem lc_m10 : lc_mok 10 = true := by decide +kernel
theorem lc_r10 : ∀ pc, pc < 68 → lc_rok 10 pc (lc_f10 pc) = true := by decide +kernel
theorem lc_m11 : lc_mok 11 = true := by decide +kernel
theorem lc_r11 : ∀ pc, pc < 56 → lc_rok 11 pc (lc_f11 pc) = true := by decide +kernel
theorem lc_m12 : lc_mok 12 = true := by decide +kernel
theorem lc_r12 : ∀ pc, pc < 20 → lc_rok 12 pc (lc_f12 pc) = true := by decide +kernel
theorem lc_m13 : lc_mok 13 = true := by decide +kernel
theorem lc_r13 : ∀ pc, pc < 6 → lc_rok 13 pc (lc_f13 pc) = true := by decide +kernel
theorem lc_m14 : lc_mok 14 = true := by decide +kernel
theorem lc_r14 : ∀ pc, pc < 29 → lc_rok 14 pc (lc_f14 pc) = true := by decide +kernel
theorem lc_m15 : lc_mok 15 = true := by decide +kernel
theorem lc_r15 : ∀ pc, pc < 10 → lc_rok 15 pc (lc_f15 pc) = true := by decide +kernel
theorem lc_m16 : lc_mok 16 = true := by decide +kernel
theorem lc_r16 : ∀ pc, pc < 38 → lc_rok 16 pc (lc_f16 pc) = true := by decide +kernel
theorem lc_m17 : lc_mok 17 = true := by decide +kernel
theorem lc_r17 : ∀ pc, pc < 36 → lc_rok 17 pc (lc_f17 pc) = true := by decide +kernel
theorem lc_m18 : lc_mok 18 = true := by decide +kernel
theorem lc_r18 : ∀ pc, pc < 82 → lc_rok 18 pc (lc_f18 pc) = true := by decide +kernel
theorem lc_m19 : lc_mok 19 = true := by decide +kernel
theorem lc_r19 : ∀ pc, pc < 44 → lc_rok 19 pc (lc_f19 pc) = true := by decide +kernel
theorem lc_m20 : lc_mok 20 = true := by decide +kernel
theorem lc_r20 : ∀ pc, pc < 32 → lc_rok 20 pc (lc_f20 pc) = true := by decide +kernel
theorem lc_m21 : lc_mok 21 = true := by decide +kernel
theorem lc_r21 : ∀ pc, pc < 53 → lc_rok 21 pc (lc_f21 pc) = true := by decide +kernel
theorem lc_m22 : lc_mok 22 = true := by decide +kernel
theorem lc_r22 : ∀ pc, pc < 106 → lc_rok 22 pc (lc_f22 pc) = true := by decide +kernel
theorem lc_m23 : lc_mok 23 = true := by decide +kernel
theorem lc_r23 : ∀ pc, pc < 106 → lc_rok 23 pc (lc_f23 pc) = true := by decide +kernel
theorem lc_m24 : lc_mok 24 = true := by decide +kernel
theorem lc_r24 : ∀ pc, pc < 26 → lc_rok 24 pc (lc_f24 pc) = true := by decide +kernel
theorem lc_m25 : lc_mok 25 = true := by decide +kernel
theorem lc_r25 : ∀ pc, pc < 6 → lc_rok 25 pc (lc_f25 pc) = true := by decide +kernel
theorem lc_m26 : lc_mok 26 = true := by decide +kernel
theorem lc_r26 : ∀ pc, pc < 31 → lc_rok 26 pc (lc_f26 pc) = true := by decide +kernel
theorem lc_m27 : lc_mok 27 = true := by decide +kernel
theorem lc_r27 : ∀ pc, pc < 37 → lc_rok 27 pc (lc_f27 pc) = true := by decide +kernel
theorem lc_m28 : lc_mok 28 = true := by decide +kernel
theorem lc_r28 : ∀ pc, pc < 45 → lc_rok 28 pc (lc_f28 pc) = true := by decide +kernel
theorem lc_m29 : lc_mok 29 = true := by decide +kernel
theorem lc_r29 : ∀ pc, pc < 21 → lc_rok 29 pc (lc_f29 pc) = true := by decide +kernel
theorem lc_m30 : lc_mok 30 = true := by decide +kernel
theorem lc_r30 : ∀ pc, pc < 108 → lc_rok 30 pc (lc_f30 pc) = true := by decide +kernel
theorem lc_m31 : lc_mok 31 = true := by decide +kernel
theorem lc_r31 : ∀ pc, pc < 13 → lc_rok 31 pc (lc_f31 pc) = true := by decide +kernel
theorem lc_m32 : lc_mok 32 = true := by decide +kernel
theorem lc_r32 : ∀ pc, pc < 18 → lc_rok 32 pc (lc_f32 pc) = true := by decide +kernel
theorem lc_m33 : lc_mok 33 = true := by decide +kernel
theorem lc_r33 : ∀ pc, pc < 18 → lc_rok 33 pc (lc_f33 pc) = true := by decide +kernel
theorem lc_m34 : lc_mok 34 = true := by decide +kernel
theorem lc_r34 : ∀ pc, pc < 9 → lc_rok 34 pc (lc_f34 pc) = true := by decide +kernel
theorem lc_m35 : lc_mok 35 = true := by decide +kernel
theorem lc_r35 : ∀ pc, pc < 18 → lc_rok 35 pc (lc_f35 pc) = true := by decide +kernel
theorem lc_m36 : lc_mok 36 = true := by decide +kernel
theorem lc_r36 : ∀ pc, pc < 43 → lc_rok 36 pc (lc_f36 pc) = true := by decide +kernel
theorem lc_m37 : lc_mok 37 = true := by decide +kernel
theorem lc_r37 : ∀ pc, pc < 79 → lc_rok 37 pc (lc_f37 pc) = true := by decide +kernel
theorem lc_m38 : lc_mok 38 = true := by decide +kernel
theorem lc_r38 : ∀ pc, pc < 18 → lc_rok 38 pc (lc_f38 pc) = true := by decide +kernel
theorem lc_m39 : lc_mok 39 = true := by decide +kernel
theorem lc_r39 : ∀ pc, pc < 43 → lc_rok 39 pc (lc_f39 pc) = true := by decide +kernel
theorem lc_m40 : lc_mok 40 = true := by decide +kernel
theorem lc_r40 : ∀ pc, pc < 67 → lc_rok 40 pc (lc_f40 pc) = true := by decide +kernel
theorem lc_m41 : lc_mok 41 = true := by decide +kernel
theorem lc_r41 : ∀ pc, pc < 70 → lc_rok 41 pc (lc_f41 pc) = true := by decide +kernel
theorem lc_m42 : lc_mok 42 = true := by decide +kernel
theorem lc_r42 : ∀ pc, pc < 101 → lc_rok 42 pc (lc_f42 pc) = true := by decide +kernel
theorem lc_m43 : lc_mok 43 = true := by decide +kernel
theorem lc_r43 : ∀ pc, pc < 41 → lc_rok 43 pc (lc_f43 pc) = true := by decide +kernel
theorem lc_m44 : lc_mok 44 = true := by decide +kernel
theorem lc_r44 : ∀ pc, pc < 121 → lc_rok 44 pc (lc_f44 pc) = true := by decide +kernel
theorem lc_m45 : lc_mok 45 = true := by decide +kernel
theorem lc_r45 : ∀ pc, pc < 99 → lc_rok 45 pc (lc_f45 pc) = true := by decide +kernel
theorem lc_m46 : lc_mok 46 = true := by decide +kernel
theorem lc_r46 : ∀ pc, pc < 60 → lc_rok 46 pc (lc_f46 pc) = true := by decide +kernel
theorem lc_m47 : lc_mok 47 = true := by decide +kernel
theorem lc_r47 : ∀ pc, pc < 19 → lc_rok 47 pc (lc_f47 pc) = true := by decide +kernel
theorem lc_m48 : lc_mok 48 = true := by decide +kernel
theorem lc_r48 : ∀ pc, pc < 21 → lc_rok 48 pc (lc_f48 pc) = true := by decide +kernel
theorem lc_m49 : lc_mok 49 = true := by decide +kernel
theorem lc_r49 : ∀ pc, pc < 71 → lc_rok 49 pc (lc_f49 pc) = true := by decide +kernel
theorem lc_m50 : lc_mok 50 = true := by decide +kernel
theorem lc_r50 : ∀ pc, pc < 74 → lc_rok 50 pc (lc_f50 pc) = true := by decide +kernel
theorem lc_m51 : lc_mok 51 = true := by decide +kernel
theorem lc_r51 : ∀ pc, pc < 86 → lc_rok 51 pc (lc_f51 pc) = true := by decide +kernel
theorem lc_m52 : lc_mok 52 = true := by decide +kernel
theorem lc_r52 : ∀ pc, pc < 37 → lc_rok 52 pc (lc_f52 pc) = true := by decide +kernel
theorem lc_m53 : lc_mok 53 = true := by decide +kernel
theorem lc_r53 : ∀ pc, pc < 39 → lc_rok 53 pc (lc_f53 pc) = true := by decide +kernel
theorem lc_m54 : lc_mok 54 = true := by decide +kernel
theorem lc_r54 : ∀ pc, pc < 154 → lc_rok 54 pc (lc_f54 pc) = true := by decide +kernel
theorem lc_m55 : lc_mok 55 = true := by decide +kernel
theorem lc_r55 : ∀ pc, pc < 141 → lc_rok 55 pc (lc_f55 pc) = true := by decide +kernel
theorem lc_m56 : lc_mok 56 = true := by decide +kernel
theorem lc_r56 : ∀ pc, pc < 58 → lc_rok 56 pc (lc_f56 pc) = true := by decide +kernel
theorem lc_m57 : lc_mok 57 = true := by decide +kernel
theorem lc_r57 : ∀ pc, pc < 39 → lc_rok 57 pc (lc_f57 pc) = true := by decide +kernel
theorem lc_m58 : lc_mok 58 = true := by decide +kernel
theorem lc_r58 : ∀ pc, pc < 18 → lc_rok 58 pc (lc_f58 pc) = true := by decide +kernel
theorem lc_m59 : lc_mok 59 = true := by decide +kernel
theorem lc_r59 : ∀ pc, pc < 18 → lc_rok 59 pc (lc_f59 pc) = true := by decide +kernel
theorem lc_m60 : lc_mok 60 = true := by decide +kernel
theorem lc_r60 : ∀ pc, pc < 45 → lc_rok 60 pc (lc_f60 pc) = true := by decide +kernel
theorem lc_m61 : lc_mok 61 = true := by decide +kernel
theorem lc_r61 : ∀ pc, pc < 51 → lc_rok 61 pc (lc_f61 pc) = true := by decide +kernel
theorem lc_m62 : lc_mok 62 = true := by decide +kernel
theorem lc_r62 : ∀ pc, pc < 80 → lc_rok 62 pc (lc_f62 pc) = true := by decide +kernel
theorem lc_m63 : lc_mok 63 = true := by decide +kernel
theorem lc_r63 : ∀ pc, pc < 45 → lc_rok 63 pc (lc_f63 pc) = true := by decide +kernel
theorem lc_m64 : lc_mok 64 = true := by decide +kernel
theorem lc_r64 : ∀ pc, pc < 77 → lc_rok 64 pc (lc_f64 pc) = true := by decide +kernel
theorem lc_m65 : lc_mok 65 = true := by decide +kernel
theorem lc_r65 : ∀ pc, pc < 14 → lc_rok 65 pc (lc_f65 pc) = true := by decide +kernel
theorem lc_m66 : lc_mok 66 = true := by decide +kernel
theorem lc_r66 : ∀ pc, pc < 11 → lc_rok 66 pc (lc_f66 pc) = true := by decide +kernel
theorem lc_m67 : lc_mok 67 = true := by decide +kernel
theorem lc_r67 : ∀ pc, pc < 53 → lc_rok 67 pc (lc_f67 pc) = true := by decide +kernel
theorem lc_m68 : lc_mok 68 = true := by decide +kernel
theorem lc_r68 : ∀ pc, pc < 53 → lc_rok 68 pc (lc_f68 pc) = true := by decide +kernel
theorem lc_m69 : lc_mok 69 = true := by decide +kernel
theorem lc_r69 : ∀ pc, pc < 26 → lc_rok 69 pc (lc_f69 pc) = true := by decide +kernel
theorem lc_m70 : lc_mok 70 = true := by decide +kernel
theorem lc_r70 : ∀ pc, pc < 13 → lc_rok 70 pc (lc_f70 pc) = true := by decide +kernel
theorem lc_m71 : lc_mok 71 = true := by decide +kernel
theorem lc_r71 : ∀ pc, pc < 35 → lc_rok 71 pc (lc_f71 pc) = true := by decide +kernel
theorem lc_m72 : lc_mok 72 = true := by decide +kernel
theorem lc_r72 : ∀ pc, pc < 62 → lc_rok 72 pc (lc_f72 pc) = true := by decide +kernel
theorem lc_m73 : lc_mok 73 = true := by decide +kernel
theorem lc_r73 : ∀ pc, pc < 166 → lc_rok 73 pc (lc_f73 pc) = true := by decide +kernel
theorem lc_m74 : lc_mok 74 = true := by decide +kernel
theorem lc_r74 : ∀ pc, pc < 46 → lc_rok 74 pc (lc_f74 pc) = true := by decide +kernel
theorem lc_m75 : lc_mok 75 = true := by decide +kernel
theorem lc_r75 : ∀ pc, pc < 86 → lc_rok 75 pc (lc_f75 pc) = true := by decide +kernel
theorem lc_m76 : lc_mok 76 = true := by decide +kernel
theorem lc_r76 : ∀ pc, pc < 8 → lc_rok 76 pc (lc_f76 pc) = true := by decide +kernel
theorem lc_m77 : lc_mok 77 = true := by decide +kernel
theorem lc_r77 : ∀ pc, pc < 187 → lc_rok 77 pc (lc_f77 pc) = true := by decide +kernel
theorem lc_m78 : lc_mok 78 = true := by decide +kernel
theorem lc_r78 : ∀ pc, pc < 89 → lc_rok 78 pc (lc_f78 pc) = true := by decide +kernel
theorem lc_m79 : lc_mok 79 = true := by decide +kernel
theorem lc_r79 : ∀ pc, pc < 119 → lc_rok 79 pc (lc_f79 pc) = true := by decide +kernel
theorem lc_m80 : lc_mok 80 = true := by decide +kernel
theorem lc_r80 : ∀ pc, pc < 55 → lc_rok 80 pc (lc_f80 pc) = true := by decide +kernel
theorem lc_m81 : lc_mok 81 = true := by decide +kernel
theorem lc_r81 : ∀ pc, pc < 54 → lc_rok 81 pc (lc_f81 pc) = true := by decide +kernel
theorem lc_m82 : lc_mok 82 = true := by decide +kernel
theorem lc_r82 : ∀ pc, pc < 40 → lc_rok 82 pc (lc_f82 pc) = true := by decide +kernel
theorem lc_m83 : lc_mok 83 = true := by decide +kernel
theorem lc_r83 : ∀ pc, pc < 100 → lc_rok 83 pc (lc_f83 pc) = true := by decide +kernel
theorem lc_m84 : lc_mok 84 = true := by decide +kernel
theorem lc_r84 : ∀ pc, pc < 95 → lc_rok 84 pc (lc_f84 pc) = true := by decide +kernel
theorem lc_m85 : lc_mok 85 = true := by decide +kernel
theorem lc_r85 : ∀ pc, pc < 51 → lc_rok 85 pc (lc_f85 pc) = true := by decide +kernel
theorem lc_m86 : lc_mok 86 = true := by decide +kernel
theorem lc_r86 : ∀ pc, pc < 61 → lc_rok 86 pc (lc_f86 pc) = true := by decide +kernel
theorem lc_m87 : lc_mok 87 = true := by decide +kernel
theorem lc_r87 : ∀ pc, pc < 53 → lc_rok 87 pc (lc_f87 pc) = true := by decide +kernel
theorem lc_m88 : lc_mok 88 = true := by decide +kernel
theorem lc_r88 : ∀ pc, pc < 70 → lc_rok 88 pc (lc_f88 pc) = true := by decide +kernel
theorem lc_m89 : lc_mok 89 = true := by decide +kernel
theorem lc_r89 : ∀ pc, pc < 46 → lc_rok 89 pc (lc_f89 pc) = true := by decide +kernel
theorem lc_m90 : lc_mok 90 = true := by decide +kernel
theorem lc_r90 : ∀ pc, pc < 74 → lc_rok 90 pc (lc_f90 pc) = true := by decide +kernel
theorem lc_m91 : lc_mok 91 = true := by decide +kernel
theorem lc_r91 : ∀ pc, pc < 47 → lc_rok 91 pc (lc_f91 pc) = true := by decide +kernel
theorem lc_m92 : lc_mok 92 = true := by decide +kernel
theorem lc_r92 : ∀ pc, pc < 58 → lc_rok 92 pc (lc_f92 pc) = true := by decide +kernel
theorem lc_m93 : lc_mok 93 = true := by decide +kernel
theorem lc_r93 : ∀ pc, pc < 64 → lc_rok 93 pc (lc_f93 pc) = true := by decide +kernel
theorem lc_m94 : lc_mok 94 = true := by decide +kernel
theorem lc_r94 : ∀ pc, pc < 11 → lc_rok 94 pc (lc_f94 pc) = true := by decide +kernel
theorem lc_m95 : lc_mok 95 = true := by decide +kernel
theorem lc_r95 : ∀ pc, pc < 49 → lc_rok 95 pc (lc_f95 pc) = true := by decide +kernel
theorem lc_m96 : lc_mok 96 = true := by decide +kernel
theorem lc_r96 : ∀ pc, pc < 15 → lc_rok 96 pc (lc_f96 pc) = true := by decide +kernel
theorem lc_m97 : lc_mok 97 = true := by decide +kernel
theorem lc_r97 : ∀ pc, pc < 59 → lc_rok 97 pc (lc_f97 pc) = true := by decide +kernel
theorem lc_m98 : lc_mok 98 = true := by decide +kernel
theorem lc_r98 : ∀ pc, pc < 89 → lc_rok 98 pc (lc_f98 pc) = true := by decide +kernel
theorem lc_m99 : lc_mok 99 = true := by decide +kernel
theorem lc_r99 : ∀ pc, pc < 64 → lc_rok 99 pc (lc_f99 pc) = true := by decide +kernel
theorem lc_m100 : lc_mok 100 = true := by decide +kernel
theorem lc_r100 : ∀ pc, pc < 11 → lc_rok 100 pc (lc_f100 pc) = true := by decide +kernel
theorem lc_m101 : lc_mok 101 = true := by decide +kernel
theorem lc_r101 : ∀ pc, pc < 15 → lc_rok 101 pc (lc_f101 pc) = true := by decide +kernel
theorem lc_m102 : lc_mok 102 = true := by decide +kernel
theorem lc_r102 : ∀ pc, pc < 32 → lc_rok 102 pc (lc_f102 pc) = true := by decide +kernel
theorem lc_m103 : lc_mok 103 = true := by decide +kernel
theorem lc_r103 : ∀ pc, pc < 19 → lc_rok 103 pc (lc_f103 pc) = true := by decide +kernel
theorem lc_m104 : lc_mok 104 = true := by decide +kernel
theorem lc_r104 : ∀ pc, pc < 37 → lc_rok 104 pc (lc_f104 pc) = true := by decide +kernel
theorem lc_m105 : lc_mok 105 = true := by decide +kernel
theorem lc_r105 : ∀ pc, pc < 63 → lc_rok 105 pc (lc_f105 pc) = true := by decide +kernel
theorem lc_m106 : lc_mok 106 = true := by decide +kernel
theorem lc_r106 : ∀ pc, pc < 19 → lc_rok 106 pc (lc_f106 pc) = true := by decide +kernel
theorem lc_m107 : lc_mok 107 = true := by decide +kernel
theorem lc_r107 : ∀ pc, pc < 15 → lc_rok 107 pc (lc_f107 pc) = true := by decide +kernel
theorem lc_m108 : lc_mok 108 = true := by decide +kernel
theorem lc_r108 : ∀ pc, pc < 23 → lc_rok 108 pc (lc_f108 pc) = true := by decide +kernel
theorem lc_m109 : lc_mok 109 = true := by decide +kernel
theorem lc_r109 : ∀ pc, pc < 19 → lc_rok 109 pc (lc_f109 pc) = true := by decide +kernel
theorem lc_m110 : lc_mok 110 = true := by decide +kernel
theorem lc_r110 : ∀ pc, pc < 50 → lc_rok 110 pc (lc_f110 pc) = true := by decide +kernel
theorem lc_m111 : lc_mok 111 = true := by decide +kernel
theorem lc_r111 : ∀ pc, pc < 39 → lc_rok 111 pc (lc_f111 pc) = true := by decide +kernel
theorem lc_m112 : lc_mok 112 = true := by decide +kernel
theorem lc_r112 : ∀ pc, pc < 34 → lc_rok 112 pc (lc_f112 pc) = true := by decide +kernel
theorem lc_m113 : lc_mok 113 = true := by decide +kernel
theorem lc_r113 : ∀ pc, pc < 50 → lc_rok 113 pc (lc_f113 pc) = true := by decide +kernel
theorem lc_m114 : lc_mok 114 = true := by decide +kernel
theorem lc_r114 : ∀ pc, pc < 50 → lc_rok 114 pc (lc_f114 pc) = true := by decide +kernel
theorem lc_m115 : lc_mok 115 = true := by decide +kernel
theorem lc_r115 : ∀ pc, pc < 131 → lc_rok 115 pc (lc_f115 pc) = true := by decide +kernel
theorem lc_m116 : lc_mok 116 = true := by decide +kernel
theorem lc_r116 : ∀ pc, pc < 19 → lc_rok 116 pc (lc_f116 pc) = true := by decide +kernel
theorem lc_m117 : lc_mok 117 = true := by decide +kernel
theorem lc_r117 : ∀ pc, pc < 10 → lc_rok 117 pc (lc_f117 pc) = true := by decide +kernel
theorem lc_m118 : lc_mok 118 = true := by decide +kernel
theorem lc_r118 : ∀ pc, pc < 15 → lc_rok 118 pc (lc_f118 pc) = true := by decide +kernel
theorem lc_m119 : lc_mok 119 = true := by decide +kernel
theorem lc_r119 : ∀ pc, pc < 26 → lc_rok 119 pc (lc_f119 pc) = true := by decide +kernel
theorem lc_m120 : lc_mok 120 = true := by decide +kernel
theorem lc_r120 : ∀ pc, pc < 53 → lc_rok 120 pc (lc_f120 pc) = true := by decide +kernel
theorem lc_m121 : lc_mok 121 = true := by decide +kernel
theorem lc_r121 : ∀ pc, pc < 63 → lc_rok 121 pc (lc_f121 pc) = true := by decide +kernel
theorem lc_m122 : lc_mok 122 = true := by decide +kernel
theorem lc_r122 : ∀ pc, pc < 34 → lc_rok 122 pc (lc_f122 pc) = true := by decide +kernel
theorem lc_m123 : lc_mok 123 = true := by decide +kernel
theorem lc_r123 : ∀ pc, pc < 153 → lc_rok 123 pc (lc_f123 pc) = true := by decide +kernel
theorem lc_m124 : lc_mok 124 = true := by decide +kernel
theorem lc_r124 : ∀ pc, pc < 42 → lc_rok 124 pc (lc_f124 pc) = true := by decide +kernel
theorem lc_m125 : lc_mok 125 = true := by decide +kernel
theorem lc_r125 : ∀ pc, pc < 43 → lc_rok 125 pc (lc_f125 pc) = true := by decide +kernel
theorem lc_m126 : lc_mok 126 = true := by decide +kernel
theorem lc_r126 : ∀ pc, pc < 52 → lc_rok 126 pc (lc_f126 pc) = true := by decide +kernel
theorem lc_m127 : lc_mok 127 = true := by decide +kernel
theorem lc_r127 : ∀ pc, pc < 189 → lc_rok 127 pc (lc_f127 pc) = true := by decide +kernel
theorem lc_m128 : lc_mok 128 = true := by decide +kernel
theorem lc_r128 : ∀ pc, pc < 102 → lc_rok 128 pc (lc_f128 pc) = true := by decide +kernel
theorem lc_m129 : lc_mok 129 = true := by decide +kernel
theorem lc_r129 : ∀ pc, pc < 128 → lc_rok 129 pc (lc_f129 pc) = true := by decide +kernel
theorem lc_m130 : lc_mok 130 = true := by decide +kernel
theorem lc_r130 : ∀ pc, pc < 210 → lc_rok 130 pc (lc_f130 pc) = true := by decide +kernel
theorem lc_m131 : lc_mok 131 = true := by decide +kernel
theorem lc_r131 : ∀ pc, pc < 5 → lc_rok 131 pc (lc_f131 pc) = true := by decide +kernel
theorem lc_m132 : lc_mok 132 = true := by decide +kernel
theorem lc_r132 : ∀ pc, pc < 14 → lc_rok 132 pc (lc_f132 pc) = true := by decide +kernel
theorem lc_m133 : lc_mok 133 = true := by decide +kernel
theorem lc_r133 : ∀ pc, pc < 14 → lc_rok 133 pc (lc_f133 pc) = true := by decide +kernel
theorem lc_m134 : lc_mok 134 = true := by decide +kernel
theorem lc_r134 : ∀ pc, pc < 52 → lc_rok 134 pc (lc_f134 pc) = true := by decide +kernel
theorem lc_m135 : lc_mok 135 = true := by decide +kernel
theorem lc_r135 : ∀ pc, pc < 32 → lc_rok 135 pc (lc_f135 pc) = true := by decide +kernel
theorem lc_m136 : lc_mok 136 = true := by decide +kernel
theorem lc_r136 : ∀ pc, pc < 145 → lc_rok 136 pc (lc_f136 pc) = true := by decide +kernel
theorem lc_m137 : lc_mok 137 = true := by decide +kernel
theorem lc_r137 : ∀ pc, pc < 67 → lc_rok 137 pc (lc_f137 pc) = true := by decide +kernel
theorem lc_m138 : lc_mok 138 = true := by decide +kernel
theorem lc_r138 : ∀ pc, pc < 72 → lc_rok 138 pc (lc_f138 pc) = true := by decide +kernel
theorem lc_m139 : lc_mok 139 = true := by decide +kernel
theorem lc_r139 : ∀ pc, pc < 103 → lc_rok 139 pc (lc_f139 pc) = true := by decide +kernel
theorem lc_m140 : lc_mok 140 = true := by decide +kernel
theorem lc_r140 : ∀ pc, pc < 37 → lc_rok 140 pc (lc_f140 pc) = true := by decide +kernel
theorem lc_m141 : lc_mok 141 = true := by decide +kernel
theorem lc_r141 : ∀ pc, pc < 125 → lc_rok 141 pc (lc_f141 pc) = true := by decide +kernel
theorem lc_m142 : lc_mok 142 = true := by decide +kernel
theorem lc_r142 : ∀ pc, pc < 102 → lc_rok 142 pc (lc_f142 pc) = true := by decide +kernel
theorem lc_m143 : lc_mok 143 = true := by decide +kernel
theorem lc_r143 : ∀ pc, pc < 40 → lc_rok 143 pc (lc_f143 pc) = true := by decide +kernel
theorem lc_m144 : lc_mok 144 = true := by decide +kernel
theorem lc_r144 : ∀ pc, pc < 51 → lc_rok 144 pc (lc_f144 pc) = true := by decide +kernel
theorem lc_m145 : lc_mok 145 = true := by decide +kernel
theorem lc_r145 : ∀ pc, pc < 160 → lc_rok 145 pc (lc_f145 pc) = true := by decide +kernel
theorem lc_m146 : lc_mok 146 = true := by decide +kernel
theorem lc_r146 : ∀ pc, pc < 31 → lc_rok 146 pc (lc_f146 pc) = true := by decide +kernel
theorem lc_m147 : lc_mok 147 = true := by decide +kernel
theorem lc_r147 : ∀ pc, pc < 79 → lc_rok 147 pc (lc_f147 pc) = true := by decide +kernel
theorem lc_m148 : lc_mok 148 = true := by decide +kernel
theorem lc_r148 : ∀ pc, pc < 47 → lc_rok 148 pc (lc_f148 pc) = true := by decide +kernel
theorem lc_m149 : lc_mok 149 = true := by decide +kernel
theorem lc_r149 : ∀ pc, pc < 85 → lc_rok 149 pc (lc_f149 pc) = true := by decide +kernel
theorem lc_m150 : lc_mok 150 = true := by decide +kernel
theorem lc_r150 : ∀ pc, pc < 48 → lc_rok 150 pc (lc_f150 pc) = true := by decide +kernel
theorem lc_m151 : lc_mok 151 = true := by decide +kernel
theorem lc_r151 : ∀ pc, pc < 43 → lc_rok 151 pc (lc_f151 pc) = true := by decide +kernel
theorem lc_m152 : lc_mok 152 = true := by decide +kernel
theorem lc_r152 : ∀ pc, pc < 63 → lc_rok 152 pc (lc_f152 pc) = true := by decide +kernel
theorem lc_m153 : lc_mok 153 = true := by decide +kernel
theorem lc_r153 : ∀ pc, pc < 41 → lc_rok 153 pc (lc_f153 pc) = true := by decide +kernel
theorem lc_m154 : lc_mok 154 = true := by decide +kernel
theorem lc_r154 : ∀ pc, pc < 85 → lc_rok 154 pc (lc_f154 pc) = true := by decide +kernel
theorem lc_m155 : lc_mok 155 = true := by decide +kernel
theorem lc_r155 : ∀ pc, pc < 75 → lc_rok 155 pc (lc_f155 pc) = true := by decide +kernel
theorem lc_m156 : lc_mok 156 = true := by decide +kernel
theorem lc_r156 : ∀ pc, pc < 54 → lc_rok 156 pc (lc_f156 pc) = true := by decide +kernel
theorem lc_m157 : lc_mok 157 = true := by decide +kernel
theorem lc_r157 : ∀ pc, pc < 27 → lc_rok 157 pc (lc_f157 pc) = true := by decide +kernel
theorem lc_m158 : lc_mok 158 = true := by decide +kernel
theorem lc_r158 : ∀ pc, pc < 110 → lc_rok 158 pc (lc_f158 pc) = true := by decide +kernel
theorem lc_m159 : lc_mok 159 = true := by decide +kernel
theorem lc_r159 : ∀ pc, pc < 45 → lc_rok 159 pc (lc_f159 pc) = true := by decide +kernel
theorem lc_m160 : lc_mok 160 = true := by decide +kernel
theorem lc_r160 : ∀ pc, pc < 24 → lc_rok 160 pc (lc_f160 pc) = true := by decide +kernel
theorem lc_m161 : lc_mok 161 = true := by decide +kernel
theorem lc_r161 : ∀ pc, pc < 42 → lc_rok 161 pc (lc_f161 pc) = true := by decide +kernel
theorem lc_m162 : lc_mok 162 = true := by decide +kernel
theorem lc_r162 : ∀ pc, pc < 71 → lc_rok 162 pc (lc_f162 pc) = true := by decide +kernel
theorem lc_m163 : lc_mok 163 = true := by decide +kernel
theorem lc_r163 : ∀ pc, pc < 20 → lc_rok 163 pc (lc_f163 pc) = true := by decide +kernel
theorem lc_m164 : lc_mok 164 = true := by decide +kernel
theorem lc_r164 : ∀ pc, pc < 62 → lc_rok 164 pc (lc_f164 pc) = true := by decide +kernel
theorem lc_m165 : lc_mok 165 = true := by decide +kernel
theorem lc_r165 : ∀ pc, pc < 58 → lc_rok 165 pc (lc_f165 pc) = true := by decide +kernel
theorem lc_m166 : lc_mok 166 = true := by decide +kernel
theorem lc_r166 : ∀ pc, pc < 93 → lc_rok 166 pc (lc_f166 pc) = true := by decide +kernel
theorem lc_m167 : lc_mok 167 = true := by decide +kernel
theorem lc_r167 : ∀ pc, pc < 56 → lc_rok 167 pc (lc_f167 pc) = true := by decide +kernel
theorem lc_m168 : lc_mok 168 = true := by decide +kernel
theorem lc_r168 : ∀ pc, pc < 44 → lc_rok 168 pc (lc_f168 pc) = true := by decide +kernel
theorem lc_m169 : lc_mok 169 = true := by decide +kernel
theorem lc_r169 : ∀ pc, pc < 90 → lc_rok 169 pc (lc_f169 pc) = true := by decide +kernel
theorem lc_m170 : lc_mok 170 = true := by decide +kernel
theorem lc_r170 : ∀ pc, pc < 43 → lc_rok 170 pc (lc_f170 pc) = true := by decide +kernel
theorem lc_m171 : lc_mok 171 = true := by decide +kernel
theorem lc_r171 : ∀ pc, pc < 62 → lc_rok 171 pc (lc_f171 pc) = true := by decide +kernel
theorem lc_m172 : lc_mok 172 = true := by decide +kernel
theorem lc_r172 : ∀ pc, pc < 125 → lc_rok 172 pc (lc_f172 pc) = true := by decide +kernel
theorem lc_m173 : lc_mok 173 = true := by decide +kernel
theorem lc_r173 : ∀ pc, pc < 22 → lc_rok 173 pc (lc_f173 pc) = true := by decide +kernel
theorem lc_m174 : lc_mok 174 = true := by decide +kernel
theorem lc_r174 : ∀ pc, pc < 59 → lc_rok 174 pc (lc_f174 pc) = true := by decide +kernel
theorem lc_m175 : lc_mok 175 = true := by decide +kernel
theorem lc_r175 : ∀ pc, pc < 53 → lc_rok 175 pc (lc_f175 pc) = true := by decide +kernel
theorem lc_m176 : lc_mok 176 = true := by decide +kernel
theorem lc_r176 : ∀ pc, pc < 65 → lc_rok 176 pc (lc_f176 pc) = true := by decide +kernel
theorem lc_m177 : lc_mok 177 = true := by decide +kernel
theorem lc_r177 : ∀ pc, pc < 42 → lc_rok 177 pc (lc_f177 pc) = true := by decide +kernel
theorem lc_m178 : lc_mok 178 = true := by decide +kernel
theorem lc_r178 : ∀ pc, pc < 35 → lc_rok 178 pc (lc_f178 pc) = true := by decide +kernel
theorem lc_m179 : lc_mok 179 = true := by decide +kernel
theorem lc_r179 : ∀ pc, pc < 94 → lc_rok 179 pc (lc_f179 pc) = true := by decide +kernel
theorem lc_m180 : lc_mok 180 = true := by decide +kernel
theorem lc_r180 : ∀ pc, pc < 44 → lc_rok 180 pc (lc_f180 pc) = true := by decide +kernel
theorem lc_m181 : lc_mok 181 = true := by decide +kernel
theorem lc_r181 : ∀ pc, pc < 86 → lc_rok 181 pc (lc_f181 pc) = true := by decide +kernel
theorem lc_m182 : lc_mok 182 = true := by decide +kernel
theorem lc_r182 : ∀ pc, pc < 70 → lc_rok 182 pc (lc_f182 pc) = true := by decide +kernel
theorem lc_m183 : lc_mok 183 = true := by decide +kernel
theorem lc_r183 : ∀ pc, pc < 59 → lc_rok 183 pc (lc_f183 pc) = true := by decide +kernel
theorem lc_m184 : lc_mok 184 = true := by decide +kernel
theorem lc_r184 : ∀ pc, pc < 40 → lc_rok 184 pc (lc_f184 pc) = true := by decide +kernel
theorem lc_m185 : lc_mok 185 = true := by decide +kernel
theorem lc_r185 : ∀ pc, pc < 22 → lc_rok 185 pc (lc_f185 pc) = true := by decide +kernel
theorem lc_m186 : lc_mok 186 = true := by decide +kernel
theorem lc_r186 : ∀ pc, pc < 25 → lc_rok 186 pc (lc_f186 pc) = true := by decide +kernel
theorem lc_m187 : lc_mok 187 = true := by decide +kernel
theorem lc_r187 : ∀ pc, pc < 39 → lc_rok 187 pc (lc_f187 pc) = true := by decide +kernel
theorem lc_m188 : lc_mok 188 = true := by decide +kernel
theorem lc_r188 : ∀ pc, pc < 44 → lc_rok 188 pc (lc_f188 pc) = true := by decide +kernel
theorem lc_m189 : lc_mok 189 = true := by decide +kernel
theorem lc_r189 : ∀ pc, pc < 53 → lc_rok 189 pc (lc_f189 pc) = true := by decide +kernel
theorem lc_u0 : lc_allW (u_ws "LaceLines$Board" lc_T0 6) [403, 405, 407, 409, 411, 413] = true := by decide +kernel
theorem lc_i0 : lc_isW 382 (.instantiable "LaceLines$Board" 6) = true := by decide +kernel
theorem lc_j0 : lc_isW 261 (.initialized "LaceLines$Board") = true := by decide +kernel
theorem lc_n0 : ∀ a, a < 6 → ∀ b, b < 6 → a ≠ b → (lc_T0 a).2.1 ≠ (lc_T0 b).2.1 := by decide +kernel
theorem lc_t0 : ∀ k, k < 6 → parseFieldDescriptor (lc_T0 k).2.2.1 = some (lc_ty 0 k) := by decide +kernel
theorem lc_d0 : (lc_dfl 0).length = 6 ∧ ∀ j, j < 6 → defaultValue (lc_ty 0 j) = vp_V (lc_dfl 0) j := by decide +kernel
theorem lc_u1 : lc_allW (u_ws "LaceLines$Images" lc_T1 3) [460, 462, 464] = true := by decide +kernel
theorem lc_i1 : lc_isW 450 (.instantiable "LaceLines$Images" 3) = true := by decide +kernel
theorem lc_j1 : lc_isW 263 (.initialized "LaceLines$Images") = true := by decide +kernel
theorem lc_n1 : ∀ a, a < 3 → ∀ b, b < 3 → a ≠ b → (lc_T1 a).2.1 ≠ (lc_T1 b).2.1 := by decide +kernel
theorem lc_t1 : ∀ k, k < 3 → parseFieldDescriptor (lc_T1 k).2.2.1 = some (lc_ty 1 k) := by decide +kernel
theorem lc_d1 : (lc_dfl 1).length = 3 ∧ ∀ j, j < 3 → defaultValue (lc_ty 1 j) = vp_V (lc_dfl 1) j := by decide +kernel
theorem lc_u2 : lc_allW (u_ws "LaceLines$Lace" lc_T2 4) [423, 425, 427, 429] = true := by decide +kernel
theorem lc_i2 : lc_isW 376 (.instantiable "LaceLines$Lace" 4) = true := by decide +kernel
theorem lc_j2 : lc_isW 260 (.initialized "LaceLines$Lace") = true := by decide +kernel
theorem lc_n2 : ∀ a, a < 4 → ∀ b, b < 4 → a ≠ b → (lc_T2 a).2.1 ≠ (lc_T2 b).2.1 := by decide +kernel
theorem lc_t2 : ∀ k, k < 4 → parseFieldDescriptor (lc_T2 k).2.2.1 = some (lc_ty 2 k) := by decide +kernel
theorem lc_d2 : (lc_dfl 2).length = 4 ∧ ∀ j, j < 4 → defaultValue (lc_ty 2 j) = vp_V (lc_dfl 2) j := by decide +kernel
theorem lc_u3 : lc_allW (u_ws "LaceLines$Notes" lc_T3 4) [542, 544, 546, 548] = true := by decide +kernel
theorem lc_i3 : lc_isW 531 (.instantiable "LaceLines$Notes" 4) = true := by decide +kernel
theorem lc_j3 : lc_isW 266 (.initialized "LaceLines$Notes") = true := by decide +kernel
theorem lc_n3 : ∀ a, a < 4 → ∀ b, b < 4 → a ≠ b → (lc_T3 a).2.1 ≠ (lc_T3 b).2.1 := by decide +kernel
theorem lc_t3 : ∀ k, k < 4 → parseFieldDescriptor (lc_T3 k).2.2.1 = some (lc_ty 3 k) := by decide +kernel
theorem lc_d3 : (lc_dfl 3).length = 4 ∧ ∀ j, j < 4 → defaultValue (lc_ty 3 j) = vp_V (lc_dfl 3) j := by decide +kernel
theorem lc_u4 : lc_allW (u_ws "LaceLines$Pattern" lc_T4 9) [356, 358, 360, 362, 364, 366, 368, 370, 372] = true := by decide +kernel
theorem lc_i4 : lc_isW 310 (.instantiable "LaceLines$Pattern" 9) = true := by decide +kernel
theorem lc_j4 : lc_isW 259 (.initialized "LaceLines$Pattern") = true := by decide +kernel
theorem lc_n4 : ∀ a, a < 9 → ∀ b, b < 9 → a ≠ b → (lc_T4 a).2.1 ≠ (lc_T4 b).2.1 := by decide +kernel
theorem lc_t4 : ∀ k, k < 9 → parseFieldDescriptor (lc_T4 k).2.2.1 = some (lc_ty 4 k) := by decide +kernel
theorem lc_d4 : (lc_dfl 4).length = 9 ∧ ∀ j, j < 9 → defaultValue (lc_ty 4 j) = vp_V (lc_dfl 4) j := by decide +kernel
theorem lc_u5 : lc_allW (u_ws "LaceLines$Plan" lc_T5 6) [483, 485, 487, 489, 491, 493] = true := by decide +kernel
theorem lc_i5 : lc_isW 468 (.instantiable "LaceLines$Plan" 6) = true := by decide +kernel
theorem lc_j5 : lc_isW 264 (.initialized "LaceLines$Plan") = true := by decide +kernel
theorem lc_n5 : ∀ a, a < 6 → ∀ b, b < 6 → a ≠ b → (lc_T5 a).2.1 ≠ (lc_T5 b).2.1 := by decide +kernel
theorem lc_t5 : ∀ k, k < 6 → parseFieldDescriptor (lc_T5 k).2.2.1 = some (lc_ty 5 k) := by decide +kernel
theorem lc_d5 : (lc_dfl 5).length = 6 ∧ ∀ j, j < 6 → defaultValue (lc_ty 5 j) = vp_V (lc_dfl 5) j := by decide +kernel
theorem lc_u6 : lc_allW (u_ws "LaceLines$Reader" lc_T6 6) [295, 297, 299, 301, 303, 305] = true := by decide +kernel
theorem lc_i6 : lc_isW 281 (.instantiable "LaceLines$Reader" 6) = true := by decide +kernel
theorem lc_j6 : lc_isW 258 (.initialized "LaceLines$Reader") = true := by decide +kernel
theorem lc_n6 : ∀ a, a < 6 → ∀ b, b < 6 → a ≠ b → (lc_T6 a).2.1 ≠ (lc_T6 b).2.1 := by decide +kernel
theorem lc_t6 : ∀ k, k < 6 → parseFieldDescriptor (lc_T6 k).2.2.1 = some (lc_ty 6 k) := by decide +kernel
theorem lc_d6 : (lc_dfl 6).length = 6 ∧ ∀ j, j < 6 → defaultValue (lc_ty 6 j) = vp_V (lc_dfl 6) j := by decide +kernel
theorem lc_u7 : lc_allW (u_ws "LaceLines$Suspects" lc_T7 7) [566, 568, 570, 572, 574, 576, 578] = true := by decide +kernel
theorem lc_i7 : lc_isW 552 (.instantiable "LaceLines$Suspects" 7) = true := by decide +kernel
theorem lc_j7 : lc_isW 267 (.initialized "LaceLines$Suspects") = true := by decide +kernel
theorem lc_n7 : ∀ a, a < 7 → ∀ b, b < 7 → a ≠ b → (lc_T7 a).2.1 ≠ (lc_T7 b).2.1 := by decide +kernel
theorem lc_t7 : ∀ k, k < 7 → parseFieldDescriptor (lc_T7 k).2.2.1 = some (lc_ty 7 k) := by decide +kernel
theorem lc_d7 : (lc_dfl 7).length = 7 ∧ ∀ j, j < 7 → defaultValue (lc_ty 7 j) = vp_V (lc_dfl 7) j := by decide +kernel
theorem lc_u8 : lc_allW (u_ws "LaceLines$Undoing" lc_T8 3) [442, 444, 446] = true := by decide +kernel
theorem lc_i8 : lc_isW 433 (.instantiable "LaceLines$Undoing" 3) = true := by decide +kernel
theorem lc_j8 : lc_isW 262 (.initialized "LaceLines$Undoing") = true := by decide +kernel
theorem lc_n8 : ∀ a, a < 3 → ∀ b, b < 3 → a ≠ b → (lc_T8 a).2.1 ≠ (lc_T8 b).2.1 := by decide +kernel
theorem lc_t8 : ∀ k, k < 3 → parseFieldDescriptor (lc_T8 k).2.2.1 = some (lc_ty 8 k) := by decide +kernel
theorem lc_d8 : (lc_dfl 8).length = 3 ∧ ∀ j, j < 3 → defaultValue (lc_ty 8 j) = vp_V (lc_dfl 8) j := by decide +kernel
theorem lc_u9 : lc_allW (u_ws "LaceLines$Window" lc_T9 3) [523, 525, 527] = true := by decide +kernel
theorem lc_i9 : lc_isW 513 (.instantiable "LaceLines$Window" 3) = true := by decide +kernel
theorem lc_j9 : lc_isW 265 (.initialized "LaceLines$Window") = true := by decide +kernel
theorem lc_n9 : ∀ a, a < 3 → ∀ b, b < 3 → a ≠ b → (lc_T9 a).2.1 ≠ (lc_T9 b).2.1 := by decide +kernel
theorem lc_t9 : ∀ k, k < 3 → parseFieldDescriptor (lc_T9 k).2.2.1 = some (lc_ty 9 k) := by decide +kernel
theorem lc_d9 : (lc_dfl 9).length = 3 ∧ ∀ j, j < 3 → defaultValue (lc_ty 9 j) = vp_V (lc_dfl 9) j := by decide +kernel
theorem lc_u10 : lc_allW (u_ws "LaceLines" lc_T10 12) [593, 595, 597, 599, 601, 603, 605, 607, 609, 611, 613, 615] = true := by decide +kernel
theorem lc_i10 : lc_isW 273 (.instantiable "LaceLines" 12) = true := by decide +kernel
theorem lc_j10 : lc_isW 257 (.initialized "LaceLines") = true := by decide +kernel
theorem lc_n10 : ∀ a, a < 12 → ∀ b, b < 12 → a ≠ b → (lc_T10 a).2.1 ≠ (lc_T10 b).2.1 := by decide +kernel
theorem lc_t10 : ∀ k, k < 12 → parseFieldDescriptor (lc_T10 k).2.2.1 = some (lc_ty 10 k) := by decide +kernel
theorem lc_d10 : (lc_dfl 10).length = 12 ∧ ∀ j, j < 12 → defaultValue (lc_ty 10 j) = vp_V (lc_dfl 10) j := by decide +kernel
theorem lc_u11 : lc_allW (u_ws "LaceLinesModel" lc_T11 33) [1157, 1159, 1161, 1163, 1165, 1167, 1169, 1171, 1173, 1175, 1177, 1179, 1181, 1183, 1185, 1187, 1189, 1191, 1193, 1195, 1197, 1199, 1201, 1203, 1205, 1207, 1209, 1211, 1213, 1215, 1217, 1219, 1221] = true := by decide +kernel
theorem lc_i11 : lc_isW 1119 (.instantiable "LaceLinesModel" 33) = true := by decide +kernel
theorem lc_j11 : lc_isW 268 (.initialized "LaceLinesModel") = true := by decide +kernel
theorem lc_n11 : ∀ a, a < 33 → ∀ b, b < 33 → a ≠ b → (lc_T11 a).2.1 ≠ (lc_T11 b).2.1 := by decide +kernel
theorem lc_t11 : ∀ k, k < 33 → parseFieldDescriptor (lc_T11 k).2.2.1 = some (lc_ty 11 k) := by decide +kernel
theorem lc_d11 : (lc_dfl 11).length = 33 ∧ ∀ j, j < 33 → defaultValue (lc_ty 11 j) = vp_V (lc_dfl 11) j := by decide +kernel
theorem lc_w_mx1 : lc_isW 1064 (.static Lib.Math.max.name) = true := by decide +kernel
theorem lc_w_mx2 : lc_isW 1065 (.code Lib.Math.max.name Lib.Math.max.code 2 (some .int)) = true := by decide +kernel
theorem lc_w_mn1 : lc_isW 671 (.static Lib.Math.min.name) = true := by decide +kernel
theorem lc_w_mn2 : lc_isW 672 (.code Lib.Math.min.name Lib.Math.min.code 2 (some .int)) = true := by decide +kernel
theorem lc_w_ma : lc_isW 269 (.initialized "java/lang/Math") = true := by decide +kernel
theorem lc_w_cp1 : lc_isW 691 (.native arraycopyName) = true := by decide +kernel
theorem lc_w_cp2 : lc_isW 690 (.static arraycopyName) = true := by decide +kernel
theorem lc_w_cp3 : lc_isW 270 (.initialized "java/lang/System") = true := by decide +kernel
theorem lc_w_ob1 : lc_isW 278 (.instanceMethod Lib.objectInit) = true := by decide +kernel
theorem lc_w_ob2 : lc_isW 279 (.code Lib.objectInit ⟨#[0xb1]⟩ 1 none) = true := by decide +kernel
theorem lc_w_ai : lc_isW 308 (.arrayClass .int) = true := by decide +kernel
theorem lc_w_az : lc_isW 1224 (.arrayClass .boolean) = true := by decide +kernel
