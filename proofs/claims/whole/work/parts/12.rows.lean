set_option maxRecDepth 100000 in
theorem am_k0 : am_t0.all (am_ck 0) = true := by decide +kernel
set_option maxRecDepth 100000 in
theorem am_k1 : am_t1.all (am_ck 1) = true := by decide +kernel
set_option maxRecDepth 100000 in
theorem am_k2 : am_t2.all (am_ck 2) = true := by decide +kernel
set_option maxRecDepth 100000 in
theorem am_k3 : am_t3.all (am_ck 3) = true := by decide +kernel
set_option maxRecDepth 100000 in
theorem am_k4 : am_t4.all (am_ck 4) = true := by decide +kernel
set_option maxRecDepth 100000 in
theorem am_k5 : am_t5.all (am_ck 5) = true := by decide +kernel
set_option maxRecDepth 100000 in
theorem am_k6 : am_t6.all (am_ck 6) = true := by decide +kernel
set_option maxRecDepth 100000 in
theorem am_k7 : am_t7.all (am_ck 7) = true := by decide +kernel
set_option maxRecDepth 100000 in
theorem am_k8 : am_t8.all (am_ck 8) = true := by decide +kernel
set_option maxRecDepth 100000 in
theorem am_k9 : am_t9.all (am_ck 9) = true := by decide +kernel
set_option maxRecDepth 100000 in
theorem am_k10 : am_t10.all (am_ck 10) = true := by decide +kernel
set_option maxRecDepth 100000 in
theorem am_k11 : am_t11.all (am_ck 11) = true := by decide +kernel
set_option maxRecDepth 100000 in
theorem am_k12 : am_t12.all (am_ck 12) = true := by decide +kernel
set_option maxRecDepth 100000 in
theorem am_k13 : am_t13.all (am_ck 13) = true := by decide +kernel
set_option maxRecDepth 100000 in
theorem am_k14 : am_t14.all (am_ck 14) = true := by decide +kernel
set_option maxRecDepth 100000 in
theorem am_k15 : am_t15.all (am_ck 15) = true := by decide +kernel
set_option maxRecDepth 100000 in
theorem am_k16 : am_t16.all (am_ck 16) = true := by decide +kernel
set_option maxRecDepth 100000 in
theorem am_k17 : am_t17.all (am_ck 17) = true := by decide +kernel
set_option maxRecDepth 100000 in
theorem am_k18 : am_t18.all (am_ck 18) = true := by decide +kernel
set_option maxRecDepth 100000 in
theorem am_k19 : am_t19.all (am_ck 19) = true := by decide +kernel
set_option maxRecDepth 100000 in
theorem am_k20 : am_t20.all (am_ck 20) = true := by decide +kernel
set_option maxRecDepth 100000 in
theorem am_k21 : am_t21.all (am_ck 21) = true := by decide +kernel
set_option maxRecDepth 100000 in
theorem am_k22 : am_t22.all (am_ck 22) = true := by decide +kernel
set_option maxRecDepth 100000 in
theorem am_k23 : am_t23.all (am_ck 23) = true := by decide +kernel
set_option maxRecDepth 100000 in
theorem am_k24 : am_t24.all (am_ck 24) = true := by decide +kernel
set_option maxRecDepth 100000 in
theorem am_k25 : am_t25.all (am_ck 25) = true := by decide +kernel
set_option maxRecDepth 100000 in
theorem am_k26 : am_t26.all (am_ck 26) = true := by decide +kernel
set_option maxRecDepth 100000 in
theorem am_k27 : am_t27.all (am_ck 27) = true := by decide +kernel
set_option maxRecDepth 100000 in
theorem am_k28 : am_t28.all (am_ck 28) = true := by decide +kernel
set_option maxRecDepth 100000 in
theorem am_k29 : am_t29.all (am_ck 29) = true := by decide +kernel
set_option maxRecDepth 100000 in
theorem am_k30 : am_t30.all (am_ck 30) = true := by decide +kernel
set_option maxRecDepth 100000 in
theorem am_k31 : am_t31.all (am_ck 31) = true := by decide +kernel
set_option maxRecDepth 100000 in
theorem am_k32 : am_t32.all (am_ck 32) = true := by decide +kernel
set_option maxRecDepth 100000 in
theorem am_k33 : am_t33.all (am_ck 33) = true := by decide +kernel
set_option maxRecDepth 100000 in
theorem am_k34 : am_t34.all (am_ck 34) = true := by decide +kernel
set_option maxRecDepth 100000 in
theorem am_k35 : am_t35.all (am_ck 35) = true := by decide +kernel
set_option maxRecDepth 100000 in
theorem am_k36 : am_t36.all (am_ck 36) = true := by decide +kernel
set_option maxRecDepth 100000 in
theorem am_k37 : am_t37.all (am_ck 37) = true := by decide +kernel
set_option maxRecDepth 100000 in
theorem am_k38 : am_t38.all (am_ck 38) = true := by decide +kernel
set_option maxRecDepth 100000 in
theorem am_k39 : am_t39.all (am_ck 39) = true := by decide +kernel
set_option maxRecDepth 100000 in
theorem am_k40 : am_t40.all (am_ck 40) = true := by decide +kernel
set_option maxRecDepth 100000 in
theorem am_k41 : am_t41.all (am_ck 41) = true := by decide +kernel
set_option maxRecDepth 100000 in
theorem am_k42 : am_t42.all (am_ck 42) = true := by decide +kernel
set_option maxRecDepth 100000 in
theorem am_k43 : am_t43.all (am_ck 43) = true := by decide +kernel
set_option maxRecDepth 100000 in
theorem am_k44 : am_t44.all (am_ck 44) = true := by decide +kernel
set_option maxRecDepth 100000 in
theorem am_k45 : am_t45.all (am_ck 45) = true := by decide +kernel
set_option maxRecDepth 100000 in
theorem am_k46 : am_t46.all (am_ck 46) = true := by decide +kernel
set_option maxRecDepth 100000 in
theorem am_k47 : am_t47.all (am_ck 47) = true := by decide +kernel
set_option maxRecDepth 100000 in
theorem am_k48 : am_t48.all (am_ck 48) = true := by decide +kernel
set_option maxRecDepth 100000 in
theorem am_k49 : am_t49.all (am_ck 49) = true := by decide +kernel
set_option maxRecDepth 100000 in
theorem am_k50 : am_t50.all (am_ck 50) = true := by decide +kernel
set_option maxRecDepth 100000 in
theorem am_k51 : am_t51.all (am_ck 51) = true := by decide +kernel
set_option maxRecDepth 100000 in
theorem am_k52 : am_t52.all (am_ck 52) = true := by decide +kernel
set_option maxRecDepth 100000 in
theorem am_k53 : am_t53.all (am_ck 53) = true := by decide +kernel
set_option maxRecDepth 100000 in
theorem am_k54 : am_t54.all (am_ck 54) = true := by decide +kernel
set_option maxRecDepth 100000 in
theorem am_k55 : am_t55.all (am_ck 55) = true := by decide +kernel
set_option maxRecDepth 100000 in
theorem am_k56 : am_t56.all (am_ck 56) = true := by decide +kernel
set_option maxRecDepth 100000 in
theorem am_k57 : am_t57.all (am_ck 57) = true := by decide +kernel
set_option maxRecDepth 100000 in
theorem am_k58 : am_t58.all (am_ck 58) = true := by decide +kernel
set_option maxRecDepth 100000 in
theorem am_k59 : am_t59.all (am_ck 59) = true := by decide +kernel
set_option maxRecDepth 100000 in
theorem am_k60 : am_t60.all (am_ck 60) = true := by decide +kernel
set_option maxRecDepth 100000 in
theorem am_k61 : am_t61.all (am_ck 61) = true := by decide +kernel
set_option maxRecDepth 100000 in
theorem am_k62 : am_t62.all (am_ck 62) = true := by decide +kernel
set_option maxRecDepth 100000 in
theorem am_k63 : am_t63.all (am_ck 63) = true := by decide +kernel
set_option maxRecDepth 100000 in
theorem am_k64 : am_t64.all (am_ck 64) = true := by decide +kernel
set_option maxRecDepth 100000 in
theorem am_k65 : am_t65.all (am_ck 65) = true := by decide +kernel
set_option maxRecDepth 100000 in
theorem am_k66 : am_t66.all (am_ck 66) = true := by decide +kernel
set_option maxRecDepth 100000 in
theorem am_k67 : am_t67.all (am_ck 67) = true := by decide +kernel
set_option maxRecDepth 100000 in
theorem am_k68 : am_t68.all (am_ck 68) = true := by decide +kernel
set_option maxRecDepth 100000 in
theorem am_k69 : am_t69.all (am_ck 69) = true := by decide +kernel
set_option maxRecDepth 100000 in
theorem am_k70 : am_t70.all (am_ck 70) = true := by decide +kernel
set_option maxRecDepth 100000 in
theorem am_k71 : am_t71.all (am_ck 71) = true := by decide +kernel
set_option maxRecDepth 100000 in
theorem am_k72 : am_t72.all (am_ck 72) = true := by decide +kernel
set_option maxRecDepth 100000 in
theorem am_k73 : am_t73.all (am_ck 73) = true := by decide +kernel
set_option maxRecDepth 100000 in
theorem am_k74 : am_t74.all (am_ck 74) = true := by decide +kernel
set_option maxRecDepth 100000 in
theorem am_k75 : am_t75.all (am_ck 75) = true := by decide +kernel
set_option maxRecDepth 100000 in
theorem am_k76 : am_t76.all (am_ck 76) = true := by decide +kernel
set_option maxRecDepth 100000 in
theorem am_k77 : am_t77.all (am_ck 77) = true := by decide +kernel
set_option maxRecDepth 100000 in
theorem am_k78 : am_t78.all (am_ck 78) = true := by decide +kernel
set_option maxRecDepth 100000 in
theorem am_k79 : am_t79.all (am_ck 79) = true := by decide +kernel
set_option maxRecDepth 100000 in
theorem am_k80 : am_t80.all (am_ck 80) = true := by decide +kernel
set_option maxRecDepth 100000 in
theorem am_k81 : am_t81.all (am_ck 81) = true := by decide +kernel
set_option maxRecDepth 100000 in
theorem am_k82 : am_t82.all (am_ck 82) = true := by decide +kernel
set_option maxRecDepth 100000 in
theorem am_k83 : am_t83.all (am_ck 83) = true := by decide +kernel
set_option maxRecDepth 100000 in
theorem am_k84 : am_t84.all (am_ck 84) = true := by decide +kernel
set_option maxRecDepth 100000 in
theorem am_k85 : am_t85.all (am_ck 85) = true := by decide +kernel
set_option maxRecDepth 100000 in
theorem am_k86 : am_t86.all (am_ck 86) = true := by decide +kernel
set_option maxRecDepth 100000 in
theorem am_k87 : am_t87.all (am_ck 87) = true := by decide +kernel
set_option maxRecDepth 100000 in
theorem am_k88 : am_t88.all (am_ck 88) = true := by decide +kernel
set_option maxRecDepth 100000 in
theorem am_k89 : am_t89.all (am_ck 89) = true := by decide +kernel
set_option maxRecDepth 100000 in
theorem am_k90 : am_t90.all (am_ck 90) = true := by decide +kernel
set_option maxRecDepth 100000 in
theorem am_k91 : am_t91.all (am_ck 91) = true := by decide +kernel
set_option maxRecDepth 100000 in
theorem am_k92 : am_t92.all (am_ck 92) = true := by decide +kernel
set_option maxRecDepth 100000 in
theorem am_k93 : am_t93.all (am_ck 93) = true := by decide +kernel
set_option maxRecDepth 100000 in
theorem am_k94 : am_t94.all (am_ck 94) = true := by decide +kernel
set_option maxRecDepth 100000 in
theorem am_k95 : am_t95.all (am_ck 95) = true := by decide +kernel
set_option maxRecDepth 100000 in
theorem am_k96 : am_t96.all (am_ck 96) = true := by decide +kernel
set_option maxRecDepth 100000 in
theorem am_k97 : am_t97.all (am_ck 97) = true := by decide +kernel
set_option maxRecDepth 100000 in
theorem am_k98 : am_t98.all (am_ck 98) = true := by decide +kernel
set_option maxRecDepth 100000 in
theorem am_k99 : am_t99.all (am_ck 99) = true := by decide +kernel
set_option maxRecDepth 100000 in
theorem am_k100 : am_t100.all (am_ck 100) = true := by decide +kernel
set_option maxRecDepth 100000 in
theorem am_k101 : am_t101.all (am_ck 101) = true := by decide +kernel
set_option maxRecDepth 100000 in
theorem am_k102 : am_t102.all (am_ck 102) = true := by decide +kernel
set_option maxRecDepth 100000 in
theorem am_k103 : am_t103.all (am_ck 103) = true := by decide +kernel
set_option maxRecDepth 100000 in
theorem am_k104 : am_t104.all (am_ck 104) = true := by decide +kernel
set_option maxRecDepth 100000 in
theorem am_k105 : am_t105.all (am_ck 105) = true := by decide +kernel
set_option maxRecDepth 100000 in
theorem am_k106 : am_t106.all (am_ck 106) = true := by decide +kernel
set_option maxRecDepth 100000 in
theorem am_k107 : am_t107.all (am_ck 107) = true := by decide +kernel
set_option maxRecDepth 100000 in
theorem am_k108 : am_t108.all (am_ck 108) = true := by decide +kernel
set_option maxRecDepth 100000 in
theorem am_k109 : am_t109.all (am_ck 109) = true := by decide +kernel
set_option maxRecDepth 100000 in
theorem am_k110 : am_t110.all (am_ck 110) = true := by decide +kernel
set_option maxRecDepth 100000 in
theorem am_k111 : am_t111.all (am_ck 111) = true := by decide +kernel
set_option maxRecDepth 100000 in
theorem am_k112 : am_t112.all (am_ck 112) = true := by decide +kernel
set_option maxRecDepth 100000 in
theorem am_k113 : am_t113.all (am_ck 113) = true := by decide +kernel
set_option maxRecDepth 100000 in
theorem am_k114 : am_t114.all (am_ck 114) = true := by decide +kernel
set_option maxRecDepth 100000 in
theorem am_k115 : am_t115.all (am_ck 115) = true := by decide +kernel
set_option maxRecDepth 100000 in
theorem am_k116 : am_t116.all (am_ck 116) = true := by decide +kernel
set_option maxRecDepth 100000 in
theorem am_k117 : am_t117.all (am_ck 117) = true := by decide +kernel
set_option maxRecDepth 100000 in
theorem am_k118 : am_t118.all (am_ck 118) = true := by decide +kernel
set_option maxRecDepth 100000 in
theorem am_k119 : am_t119.all (am_ck 119) = true := by decide +kernel
set_option maxRecDepth 100000 in
theorem am_k120 : am_t120.all (am_ck 120) = true := by decide +kernel
set_option maxRecDepth 100000 in
theorem am_k121 : am_t121.all (am_ck 121) = true := by decide +kernel
set_option maxRecDepth 100000 in
theorem am_k122 : am_t122.all (am_ck 122) = true := by decide +kernel
set_option maxRecDepth 100000 in
theorem am_k123 : am_t123.all (am_ck 123) = true := by decide +kernel
set_option maxRecDepth 100000 in
theorem am_k124 : am_t124.all (am_ck 124) = true := by decide +kernel
set_option maxRecDepth 100000 in
theorem am_k125 : am_t125.all (am_ck 125) = true := by decide +kernel
set_option maxRecDepth 100000 in
theorem am_k126 : am_t126.all (am_ck 126) = true := by decide +kernel
set_option maxRecDepth 100000 in
theorem am_k127 : am_t127.all (am_ck 127) = true := by decide +kernel
set_option maxRecDepth 100000 in
theorem am_k128 : am_t128.all (am_ck 128) = true := by decide +kernel
set_option maxRecDepth 100000 in
theorem am_k129 : am_t129.all (am_ck 129) = true := by decide +kernel
set_option maxRecDepth 100000 in
theorem am_k130 : am_t130.all (am_ck 130) = true := by decide +kernel
set_option maxRecDepth 100000 in
theorem am_k131 : am_t131.all (am_ck 131) = true := by decide +kernel
set_option maxRecDepth 100000 in
theorem am_k132 : am_t132.all (am_ck 132) = true := by decide +kernel
set_option maxRecDepth 100000 in
theorem am_k133 : am_t133.all (am_ck 133) = true := by decide +kernel
set_option maxRecDepth 100000 in
theorem am_k134 : am_t134.all (am_ck 134) = true := by decide +kernel
set_option maxRecDepth 100000 in
theorem am_k135 : am_t135.all (am_ck 135) = true := by decide +kernel
set_option maxRecDepth 100000 in
theorem am_k136 : am_t136.all (am_ck 136) = true := by decide +kernel
set_option maxRecDepth 100000 in
theorem am_k137 : am_t137.all (am_ck 137) = true := by decide +kernel
set_option maxRecDepth 100000 in
theorem am_k138 : am_t138.all (am_ck 138) = true := by decide +kernel
set_option maxRecDepth 100000 in
theorem am_k139 : am_t139.all (am_ck 139) = true := by decide +kernel
set_option maxRecDepth 100000 in
theorem am_k140 : am_t140.all (am_ck 140) = true := by decide +kernel
set_option maxRecDepth 100000 in
theorem am_k141 : am_t141.all (am_ck 141) = true := by decide +kernel
set_option maxRecDepth 100000 in
theorem am_k142 : am_t142.all (am_ck 142) = true := by decide +kernel
set_option maxRecDepth 100000 in
theorem am_k143 : am_t143.all (am_ck 143) = true := by decide +kernel
set_option maxRecDepth 100000 in
theorem am_k144 : am_t144.all (am_ck 144) = true := by decide +kernel
set_option maxRecDepth 100000 in
theorem am_k145 : am_t145.all (am_ck 145) = true := by decide +kernel
set_option maxRecDepth 100000 in
theorem am_k146 : am_t146.all (am_ck 146) = true := by decide +kernel
set_option maxRecDepth 100000 in
theorem am_k147 : am_t147.all (am_ck 147) = true := by decide +kernel
set_option maxRecDepth 100000 in
theorem am_k148 : am_t148.all (am_ck 148) = true := by decide +kernel
set_option maxRecDepth 100000 in
theorem am_k149 : am_t149.all (am_ck 149) = true := by decide +kernel
set_option maxRecDepth 100000 in
theorem am_k150 : am_t150.all (am_ck 150) = true := by decide +kernel
set_option maxRecDepth 100000 in
theorem am_k151 : am_t151.all (am_ck 151) = true := by decide +kernel
set_option maxRecDepth 100000 in
theorem am_k152 : am_t152.all (am_ck 152) = true := by decide +kernel
set_option maxRecDepth 100000 in
theorem am_k153 : am_t153.all (am_ck 153) = true := by decide +kernel
set_option maxRecDepth 100000 in
theorem am_k154 : am_t154.all (am_ck 154) = true := by decide +kernel
set_option maxRecDepth 100000 in
theorem am_k155 : am_t155.all (am_ck 155) = true := by decide +kernel
set_option maxRecDepth 100000 in
theorem am_k156 : am_t156.all (am_ck 156) = true := by decide +kernel
set_option maxRecDepth 100000 in
theorem am_k157 : am_t157.all (am_ck 157) = true := by decide +kernel
set_option maxRecDepth 100000 in
theorem am_k158 : am_t158.all (am_ck 158) = true := by decide +kernel
set_option maxRecDepth 100000 in
theorem am_k159 : am_t159.all (am_ck 159) = true := by decide +kernel
set_option maxRecDepth 100000 in
theorem am_k160 : am_t160.all (am_ck 160) = true := by decide +kernel
set_option maxRecDepth 100000 in
theorem am_k161 : am_t161.all (am_ck 161) = true := by decide +kernel
set_option maxRecDepth 100000 in
theorem am_k162 : am_t162.all (am_ck 162) = true := by decide +kernel
set_option maxRecDepth 100000 in
theorem am_k163 : am_t163.all (am_ck 163) = true := by decide +kernel
