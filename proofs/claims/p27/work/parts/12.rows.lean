set_option maxRecDepth 100000 in
theorem am_k0 : am_t0.all (am_ck 0) = true := by decide +kernel
set_option maxRecDepth 100000 in
theorem am_k1 : am_t1.all (am_ck 1) = true := by decide +kernel
set_option maxRecDepth 100000 in
theorem am_k2 : am_t2.all (am_ck 2) = true := by decide +kernel
set_option maxRecDepth 100000 in
theorem am_k3 : am_t3.all (am_ck 3) = true := by decide +kernel
set_option maxRecDepth 100000 in
theorem am_k4 : am_t4.all (am_ck 4) = true := by decide +kernel
set_option maxRecDepth 100000 in
theorem am_k13 : am_t13.all (am_ck 13) = true := by decide +kernel
set_option maxRecDepth 100000 in
theorem am_k14 : am_t14.all (am_ck 14) = true := by decide +kernel
set_option maxRecDepth 100000 in
theorem am_k15 : am_t15.all (am_ck 15) = true := by decide +kernel
set_option maxRecDepth 100000 in
theorem am_k16 : am_t16.all (am_ck 16) = true := by decide +kernel
set_option maxRecDepth 100000 in
theorem am_k17 : am_t17.all (am_ck 17) = true := by decide +kernel
set_option maxRecDepth 100000 in
theorem am_k18 : am_t18.all (am_ck 18) = true := by decide +kernel
set_option maxRecDepth 100000 in
theorem am_k19 : am_t19.all (am_ck 19) = true := by decide +kernel
set_option maxRecDepth 100000 in
theorem am_k20 : am_t20.all (am_ck 20) = true := by decide +kernel
set_option maxRecDepth 100000 in
theorem am_k21 : am_t21.all (am_ck 21) = true := by decide +kernel
set_option maxRecDepth 100000 in
theorem am_k22 : am_t22.all (am_ck 22) = true := by decide +kernel
set_option maxRecDepth 100000 in
theorem am_k23 : am_t23.all (am_ck 23) = true := by decide +kernel
set_option maxRecDepth 100000 in
theorem am_k24 : am_t24.all (am_ck 24) = true := by decide +kernel
set_option maxRecDepth 100000 in
theorem am_k25 : am_t25.all (am_ck 25) = true := by decide +kernel
set_option maxRecDepth 100000 in
theorem am_k26 : am_t26.all (am_ck 26) = true := by decide +kernel
set_option maxRecDepth 100000 in
theorem am_k27 : am_t27.all (am_ck 27) = true := by decide +kernel
set_option maxRecDepth 100000 in
theorem am_k28 : am_t28.all (am_ck 28) = true := by decide +kernel
set_option maxRecDepth 100000 in
theorem am_k29 : am_t29.all (am_ck 29) = true := by decide +kernel
set_option maxRecDepth 100000 in
theorem am_k30 : am_t30.all (am_ck 30) = true := by decide +kernel
set_option maxRecDepth 100000 in
theorem am_k31 : am_t31.all (am_ck 31) = true := by decide +kernel
set_option maxRecDepth 100000 in
theorem am_k32 : am_t32.all (am_ck 32) = true := by decide +kernel
set_option maxRecDepth 100000 in
theorem am_k33 : am_t33.all (am_ck 33) = true := by decide +kernel
set_option maxRecDepth 100000 in
theorem am_k34 : am_t34.all (am_ck 34) = true := by decide +kernel
set_option maxRecDepth 100000 in
theorem am_k35 : am_t35.all (am_ck 35) = true := by decide +kernel
set_option maxRecDepth 100000 in
theorem am_k36 : am_t36.all (am_ck 36) = true := by decide +kernel
set_option maxRecDepth 100000 in
theorem am_k37 : am_t37.all (am_ck 37) = true := by decide +kernel
set_option maxRecDepth 100000 in
theorem am_k38 : am_t38.all (am_ck 38) = true := by decide +kernel
set_option maxRecDepth 100000 in
theorem am_k39 : am_t39.all (am_ck 39) = true := by decide +kernel
set_option maxRecDepth 100000 in
theorem am_k40 : am_t40.all (am_ck 40) = true := by decide +kernel
set_option maxRecDepth 100000 in
theorem am_k41 : am_t41.all (am_ck 41) = true := by decide +kernel
set_option maxRecDepth 100000 in
theorem am_k42 : am_t42.all (am_ck 42) = true := by decide +kernel
set_option maxRecDepth 100000 in
theorem am_k43 : am_t43.all (am_ck 43) = true := by decide +kernel
set_option maxRecDepth 100000 in
theorem am_k44 : am_t44.all (am_ck 44) = true := by decide +kernel
set_option maxRecDepth 100000 in
theorem am_k45 : am_t45.all (am_ck 45) = true := by decide +kernel
set_option maxRecDepth 100000 in
theorem am_k46 : am_t46.all (am_ck 46) = true := by decide +kernel
set_option maxRecDepth 100000 in
theorem am_k47 : am_t47.all (am_ck 47) = true := by decide +kernel
set_option maxRecDepth 100000 in
theorem am_k48 : am_t48.all (am_ck 48) = true := by decide +kernel
set_option maxRecDepth 100000 in
theorem am_k49 : am_t49.all (am_ck 49) = true := by decide +kernel
set_option maxRecDepth 100000 in
theorem am_k50 : am_t50.all (am_ck 50) = true := by decide +kernel
set_option maxRecDepth 100000 in
theorem am_k51 : am_t51.all (am_ck 51) = true := by decide +kernel
set_option maxRecDepth 100000 in
theorem am_k52 : am_t52.all (am_ck 52) = true := by decide +kernel
set_option maxRecDepth 100000 in
theorem am_k53 : am_t53.all (am_ck 53) = true := by decide +kernel
set_option maxRecDepth 100000 in
theorem am_k55 : am_t55.all (am_ck 55) = true := by decide +kernel
set_option maxRecDepth 100000 in
theorem am_k56 : am_t56.all (am_ck 56) = true := by decide +kernel
set_option maxRecDepth 100000 in
theorem am_k57 : am_t57.all (am_ck 57) = true := by decide +kernel
set_option maxRecDepth 100000 in
theorem am_k58 : am_t58.all (am_ck 58) = true := by decide +kernel
set_option maxRecDepth 100000 in
theorem am_k59 : am_t59.all (am_ck 59) = true := by decide +kernel
set_option maxRecDepth 100000 in
theorem am_k60 : am_t60.all (am_ck 60) = true := by decide +kernel
set_option maxRecDepth 100000 in
theorem am_k61 : am_t61.all (am_ck 61) = true := by decide +kernel
set_option maxRecDepth 100000 in
theorem am_k64 : am_t64.all (am_ck 64) = true := by decide +kernel
set_option maxRecDepth 100000 in
theorem am_k67 : am_t67.all (am_ck 67) = true := by decide +kernel
set_option maxRecDepth 100000 in
theorem am_k68 : am_t68.all (am_ck 68) = true := by decide +kernel
set_option maxRecDepth 100000 in
theorem am_k69 : am_t69.all (am_ck 69) = true := by decide +kernel
set_option maxRecDepth 100000 in
theorem am_k70 : am_t70.all (am_ck 70) = true := by decide +kernel
set_option maxRecDepth 100000 in
theorem am_k71 : am_t71.all (am_ck 71) = true := by decide +kernel
set_option maxRecDepth 100000 in
theorem am_k72 : am_t72.all (am_ck 72) = true := by decide +kernel
set_option maxRecDepth 100000 in
theorem am_k73 : am_t73.all (am_ck 73) = true := by decide +kernel
set_option maxRecDepth 100000 in
theorem am_k74 : am_t74.all (am_ck 74) = true := by decide +kernel
set_option maxRecDepth 100000 in
theorem am_k75 : am_t75.all (am_ck 75) = true := by decide +kernel
set_option maxRecDepth 100000 in
theorem am_k76 : am_t76.all (am_ck 76) = true := by decide +kernel
set_option maxRecDepth 100000 in
theorem am_k77 : am_t77.all (am_ck 77) = true := by decide +kernel
set_option maxRecDepth 100000 in
theorem am_k78 : am_t78.all (am_ck 78) = true := by decide +kernel
set_option maxRecDepth 100000 in
theorem am_k79 : am_t79.all (am_ck 79) = true := by decide +kernel
set_option maxRecDepth 100000 in
theorem am_k81 : am_t81.all (am_ck 81) = true := by decide +kernel
set_option maxRecDepth 100000 in
theorem am_k82 : am_t82.all (am_ck 82) = true := by decide +kernel
set_option maxRecDepth 100000 in
theorem am_k83 : am_t83.all (am_ck 83) = true := by decide +kernel
set_option maxRecDepth 100000 in
theorem am_k84 : am_t84.all (am_ck 84) = true := by decide +kernel
set_option maxRecDepth 100000 in
theorem am_k158 : am_t158.all (am_ck 158) = true := by decide +kernel
set_option maxRecDepth 100000 in
theorem am_k159 : am_t159.all (am_ck 159) = true := by decide +kernel
set_option maxRecDepth 100000 in
theorem am_k160 : am_t160.all (am_ck 160) = true := by decide +kernel
set_option maxRecDepth 100000 in
theorem am_k161 : am_t161.all (am_ck 161) = true := by decide +kernel
set_option maxRecDepth 100000 in
theorem am_k162 : am_t162.all (am_ck 162) = true := by decide +kernel
set_option maxRecDepth 100000 in
theorem am_k163 : am_t163.all (am_ck 163) = true := by decide +kernel
