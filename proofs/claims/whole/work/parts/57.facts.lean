/-! ===== the class, cell by cell ===== -/
theorem XL.s0 {h : MH} (L : XL h) : gR h 1 0 = some 2 := L.st.1
theorem XL.s1 {h : MH} (L : XL h) : gR h 1 1 = some 10 := L.st.2.1
theorem XL.s2 {h : MH} (L : XL h) : gR h 1 2 = some 11 := L.st.2.2.1
theorem XL.s3 {h : MH} (L : XL h) : gR h 1 3 = some 12 := L.st.2.2.2.1
theorem XL.s5 {h : MH} (L : XL h) : gR h 1 5 = some 15 := L.st.2.2.2.2.1
theorem XL.s6 {h : MH} (L : XL h) : gR h 1 6 = some 18 := L.st.2.2.2.2.2.1
theorem XL.nt {h : MH} (L : XL h) : netAt h 2 := L.st.2.2.2.2.2.2.1
theorem XL.n3 {h : MH} (L : XL h) : gR h 2 3 = some 3 := L.st.2.2.2.2.2.2.1.1
theorem XL.n4 {h : MH} (L : XL h) : gR h 2 4 = some 4 := L.st.2.2.2.2.2.2.1.2.1
theorem XL.n5 {h : MH} (L : XL h) : gR h 2 5 = some 5 := L.st.2.2.2.2.2.2.1.2.2.1
theorem XL.n6 {h : MH} (L : XL h) : gR h 2 6 = some 6 := L.st.2.2.2.2.2.2.1.2.2.2.1
theorem XL.n7 {h : MH} (L : XL h) : gR h 2 7 = some 7 := L.st.2.2.2.2.2.2.1.2.2.2.2.1
theorem XL.z3 {h : MH} (L : XL h) : gN h 3 = 30 := L.st.2.2.2.2.2.2.1.2.2.2.2.2.1
theorem XL.z4 {h : MH} (L : XL h) : gN h 4 = 30 := L.st.2.2.2.2.2.2.1.2.2.2.2.2.2.1
theorem XL.z5 {h : MH} (L : XL h) : gN h 5 = 30 := L.st.2.2.2.2.2.2.1.2.2.2.2.2.2.2.1
theorem XL.z6 {h : MH} (L : XL h) : gN h 6 = 6 := L.st.2.2.2.2.2.2.1.2.2.2.2.2.2.2.2.1
theorem XL.p7 {h : MH} (L : XL h) : gR h 7 1 = some 8 := L.st.2.2.2.2.2.2.1.2.2.2.2.2.2.2.2.2.1
theorem XL.q7 {h : MH} (L : XL h) : gR h 7 2 = some 9 := L.st.2.2.2.2.2.2.1.2.2.2.2.2.2.2.2.2.2.1
theorem XL.z8 {h : MH} (L : XL h) : gN h 8 = 6 := L.st.2.2.2.2.2.2.1.2.2.2.2.2.2.2.2.2.2.2.1
theorem XL.z9 {h : MH} (L : XL h) : gN h 9 = 36 := L.st.2.2.2.2.2.2.1.2.2.2.2.2.2.2.2.2.2.2.2.1
theorem XL.w7 {h : MH} (L : XL h) : gI h 7 0 = nI 6 := L.st.2.2.2.2.2.2.1.2.2.2.2.2.2.2.2.2.2.2.2.2
theorem XL.rows7 {h : MH} (L : XL h) : rowsAt h 7 6 6 := L.st.2.2.2.2.2.2.1.2.2.2.2.2.2.2.2.2
theorem XL.z10 {h : MH} (L : XL h) : gN h 10 = 8 := L.st.2.2.2.2.2.2.2.1
theorem XL.z11 {h : MH} (L : XL h) : gN h 11 = 8 := L.st.2.2.2.2.2.2.2.2.1
theorem XL.p12 {h : MH} (L : XL h) : gR h 12 1 = some 13 := L.st.2.2.2.2.2.2.2.2.2.1.1
theorem XL.q12 {h : MH} (L : XL h) : gR h 12 2 = some 14 := L.st.2.2.2.2.2.2.2.2.2.1.2.1
theorem XL.z13 {h : MH} (L : XL h) : gN h 13 = 8 := L.st.2.2.2.2.2.2.2.2.2.1.2.2.1
theorem XL.z14 {h : MH} (L : XL h) : gN h 14 = 96 := L.st.2.2.2.2.2.2.2.2.2.1.2.2.2.1
theorem XL.w12 {h : MH} (L : XL h) : gI h 12 0 = nI 12 := L.st.2.2.2.2.2.2.2.2.2.1.2.2.2.2
theorem XL.rows12 {h : MH} (L : XL h) : rowsAt h 12 8 12 := L.st.2.2.2.2.2.2.2.2.2.1
theorem XL.p15 {h : MH} (L : XL h) : gR h 15 1 = some 16 := L.st.2.2.2.2.2.2.2.2.2.2.1.1
theorem XL.q15 {h : MH} (L : XL h) : gR h 15 2 = some 17 := L.st.2.2.2.2.2.2.2.2.2.2.1.2.1
theorem XL.z16 {h : MH} (L : XL h) : gN h 16 = 12 := L.st.2.2.2.2.2.2.2.2.2.2.1.2.2.1
theorem XL.z17 {h : MH} (L : XL h) : gN h 17 = 192 := L.st.2.2.2.2.2.2.2.2.2.2.1.2.2.2.1
theorem XL.w15 {h : MH} (L : XL h) : gI h 15 0 = nI 16 := L.st.2.2.2.2.2.2.2.2.2.2.1.2.2.2.2
theorem XL.rows15 {h : MH} (L : XL h) : rowsAt h 15 12 16 := L.st.2.2.2.2.2.2.2.2.2.2.1
theorem XL.way {h : MH} (L : XL h) : rowAt h 18 16 := L.st.2.2.2.2.2.2.2.2.2.2.2
theorem XL.y18 {h : MH} (L : XL h) : gR h 18 0 = some 19 := L.st.2.2.2.2.2.2.2.2.2.2.2.1
theorem XL.z19 {h : MH} (L : XL h) : gN h 19 = 16 := L.st.2.2.2.2.2.2.2.2.2.2.2.2
theorem XL.y20 {h : MH} (L : XL h) : gR h 20 0 = some 21 := L.stk.1
theorem XL.z21 {h : MH} (L : XL h) : gN h 21 = 12 := L.stk.2
theorem XL.y22 {h : MH} (L : XL h) : gR h 22 0 = some 23 := L.acts.1
theorem XL.z23 {h : MH} (L : XL h) : gN h 23 = 6 := L.acts.2.1
theorem XL.y157 {h : MH} (L : XL h) : gR h 157 0 = some 158 := L.imk.1
theorem XL.z158 {h : MH} (L : XL h) : gN h 158 = 12 := L.imk.2
theorem XL.y159 {h : MH} (L : XL h) : gR h 159 0 = some 160 := L.tape.1
theorem XL.t159 {h : MH} (L : XL h) : gR h 159 5 = some 161 := L.tape.2.1
theorem XL.z160 {h : MH} (L : XL h) : gN h 160 = 500 := L.tape.2.2.1
theorem XL.told {h : MH} (L : XL h) : netAt h 161 := L.tape.2.2.2
theorem XL.d169 {h : MH} (L : XL h) : gR h 169 0 = some 170 := L.rt.1
theorem XL.c169 {h : MH} (L : XL h) : gR h 169 1 = some 171 := L.rt.2.1
theorem XL.z170 {h : MH} (L : XL h) : gN h 170 = 100 := L.rt.2.2.1
theorem XL.z171 {h : MH} (L : XL h) : gN h 171 = 100 := L.rt.2.2.2
theorem XL.d172 {h : MH} (L : XL h) : gR h 172 0 = some 173 := L.wo.1
theorem XL.c172 {h : MH} (L : XL h) : gR h 172 1 = some 174 := L.wo.2.1
theorem XL.z173 {h : MH} (L : XL h) : gN h 173 = 100 := L.wo.2.2.1
theorem XL.z174 {h : MH} (L : XL h) : gN h 174 = 100 := L.wo.2.2.2
theorem XL.d175 {h : MH} (L : XL h) : gR h 175 0 = some 176 := L.tri.1
theorem XL.c175 {h : MH} (L : XL h) : gR h 175 1 = some 177 := L.tri.2.1
theorem XL.z176 {h : MH} (L : XL h) : gN h 176 = 100 := L.tri.2.2.1
theorem XL.z177 {h : MH} (L : XL h) : gN h 177 = 100 := L.tri.2.2.2
theorem XL.d194 {h : MH} (L : XL h) : gR h 194 0 = some 195 := L.lo.1
theorem XL.c194 {h : MH} (L : XL h) : gR h 194 1 = some 196 := L.lo.2.1
theorem XL.z195 {h : MH} (L : XL h) : gN h 195 = 30 := L.lo.2.2.1
theorem XL.z196 {h : MH} (L : XL h) : gN h 196 = 30 := L.lo.2.2.2
theorem XL.i0 {h : MH} (L : XL h) : gR h 178 0 = some 179 := L.2.2.2.2.2.2.2.2.2.2.1.1
theorem XL.i3 {h : MH} (L : XL h) : gR h 178 3 = some 180 := L.2.2.2.2.2.2.2.2.2.2.1.2.1
theorem XL.i4 {h : MH} (L : XL h) : gR h 178 4 = some 181 := L.2.2.2.2.2.2.2.2.2.2.1.2.2.1
theorem XL.i5 {h : MH} (L : XL h) : gR h 178 5 = some 182 := L.2.2.2.2.2.2.2.2.2.2.1.2.2.2.1
theorem XL.z179 {h : MH} (L : XL h) : gN h 179 = 16 := L.2.2.2.2.2.2.2.2.2.2.1.2.2.2.2.1
theorem XL.z180 {h : MH} (L : XL h) : gN h 180 = 17 := L.2.2.2.2.2.2.2.2.2.2.1.2.2.2.2.2.1
theorem XL.z181 {h : MH} (L : XL h) : gN h 181 = 17 := L.2.2.2.2.2.2.2.2.2.2.1.2.2.2.2.2.2.1
theorem XL.z182 {h : MH} (L : XL h) : gN h 182 = 17 := L.2.2.2.2.2.2.2.2.2.2.1.2.2.2.2.2.2.2
theorem XL.k0 {h : MH} (L : XL h) : gR h 183 0 = some 184 := L.2.2.2.2.2.2.2.2.2.2.2.1.1
theorem XL.k1 {h : MH} (L : XL h) : gR h 183 1 = some 186 := L.2.2.2.2.2.2.2.2.2.2.2.1.2.1
theorem XL.k2 {h : MH} (L : XL h) : gR h 183 2 = some 188 := L.2.2.2.2.2.2.2.2.2.2.2.1.2.2.1
theorem XL.k3 {h : MH} (L : XL h) : gR h 183 3 = some 191 := L.2.2.2.2.2.2.2.2.2.2.2.1.2.2.2.1
theorem XL.k5 {h : MH} (L : XL h) : gR h 183 5 = some 192 := L.2.2.2.2.2.2.2.2.2.2.2.1.2.2.2.2.1
theorem XL.k6 {h : MH} (L : XL h) : gR h 183 6 = some 193 := L.2.2.2.2.2.2.2.2.2.2.2.1.2.2.2.2.2.1
theorem XL.y184 {h : MH} (L : XL h) : gR h 184 0 = some 185 := L.2.2.2.2.2.2.2.2.2.2.2.1.2.2.2.2.2.2.1.1
theorem XL.z185 {h : MH} (L : XL h) : gN h 185 = 12 := L.2.2.2.2.2.2.2.2.2.2.2.1.2.2.2.2.2.2.1.2
theorem XL.y186 {h : MH} (L : XL h) : gR h 186 0 = some 187 := L.2.2.2.2.2.2.2.2.2.2.2.1.2.2.2.2.2.2.2.1.1
theorem XL.z187 {h : MH} (L : XL h) : gN h 187 = 16 := L.2.2.2.2.2.2.2.2.2.2.2.1.2.2.2.2.2.2.2.1.2
theorem XL.sh188 {h : MH} (L : XL h) : rtAt h 188 30 := L.2.2.2.2.2.2.2.2.2.2.2.1.2.2.2.2.2.2.2.2.1
theorem XL.d188 {h : MH} (L : XL h) : gR h 188 0 = some 189 := L.2.2.2.2.2.2.2.2.2.2.2.1.2.2.2.2.2.2.2.2.1.1
theorem XL.c188 {h : MH} (L : XL h) : gR h 188 1 = some 190 := L.2.2.2.2.2.2.2.2.2.2.2.1.2.2.2.2.2.2.2.2.1.2.1
theorem XL.z189 {h : MH} (L : XL h) : gN h 189 = 30 := L.2.2.2.2.2.2.2.2.2.2.2.1.2.2.2.2.2.2.2.2.1.2.2.1
theorem XL.z190 {h : MH} (L : XL h) : gN h 190 = 30 := L.2.2.2.2.2.2.2.2.2.2.2.1.2.2.2.2.2.2.2.2.1.2.2.2
theorem XL.z191 {h : MH} (L : XL h) : gN h 191 = 18 := L.2.2.2.2.2.2.2.2.2.2.2.1.2.2.2.2.2.2.2.2.2.1
theorem XL.z192 {h : MH} (L : XL h) : gN h 192 = 10 := L.2.2.2.2.2.2.2.2.2.2.2.1.2.2.2.2.2.2.2.2.2.2.1
theorem XL.z193 {h : MH} (L : XL h) : gN h 193 = 30 := L.2.2.2.2.2.2.2.2.2.2.2.1.2.2.2.2.2.2.2.2.2.2.2
theorem XL.y197 {h : MH} (L : XL h) : gR h 197 0 = some 198 := L.rou.1
theorem XL.z198 {h : MH} (L : XL h) : gN h 198 = 16 := L.rou.2
