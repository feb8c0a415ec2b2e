theorem bm_510 : Cond.methodLink R_law 13 yX10_nodes ∈ BIG := bmem 510 (by decide +kernel) rfl
theorem bm_565 : Cond.methodLink R_law 18 yX10_link ∈ BIG := bmem 565 (by decide +kernel) rfl
theorem bm_585 : Cond.methodLink R_law 23 yX10_state ∈ BIG := bmem 585 (by decide +kernel) rfl
theorem bm_598 : Cond.methodLink R_law 28 yX10_cost ∈ BIG := bmem 598 (by decide +kernel) rfl
theorem bm_602 : Cond.methodLink R_law 33 yX10_bind ∈ BIG := bmem 602 (by decide +kernel) rfl
theorem bm_630 : Cond.methodLink R_law 38 yX10_unbind ∈ BIG := bmem 630 (by decide +kernel) rfl
theorem bm_635 : Cond.methodLink R_law 42 yX10_depth ∈ BIG := bmem 635 (by decide +kernel) rfl
theorem bm_639 : Cond.methodLink R_law 46 yX10_on ∈ BIG := bmem 639 (by decide +kernel) rfl
theorem bm_659 : Cond.methodLink R_law 51 yX10_off ∈ BIG := bmem 659 (by decide +kernel) rfl
theorem bm_663 : Cond.methodLink R_law 55 yX10_label ∈ BIG := bmem 663 (by decide +kernel) rfl
theorem bm_670 : Cond.methodLink R_law 59 yX10_pop ∈ BIG := bmem 670 (by decide +kernel) rfl
theorem bm_678 : Cond.methodLink R_law 63 yX10_write ∈ BIG := bmem 678 (by decide +kernel) rfl
theorem bm_771 : Cond.methodLink R_law 68 yX10_witness ∈ BIG := bmem 771 (by decide +kernel) rfl
theorem bm_779 : Cond.methodLink R_law 72 yX10_greedy ∈ BIG := bmem 779 (by decide +kernel) rfl
theorem bm_788 : Cond.methodLink R_law 76 yX10_covers ∈ BIG := bmem 788 (by decide +kernel) rfl
theorem bm_793 : Cond.methodLink R_law 80 yX10_far ∈ BIG := bmem 793 (by decide +kernel) rfl
theorem bm_799 : Cond.methodLink R_law 84 yX10_paths ∈ BIG := bmem 799 (by decide +kernel) rfl
theorem bm_805 : Cond.methodLink R_law 89 yX10_next ∈ BIG := bmem 805 (by decide +kernel) rfl
theorem bm_814 : Cond.methodLink R_law 93 yX10_ends ∈ BIG := bmem 814 (by decide +kernel) rfl
theorem bm_905 : Cond.methodLink R_law 97 yX10_exact ∈ BIG := bmem 905 (by decide +kernel) rfl
theorem bm_909 : Cond.methodLink R_law 101 yX10_high ∈ BIG := bmem 909 (by decide +kernel) rfl
theorem bm_913 : Cond.methodLink R_law 105 yX10_course ∈ BIG := bmem 913 (by decide +kernel) rfl
theorem bm_917 : Cond.methodLink R_law 109 yX10_share ∈ BIG := bmem 917 (by decide +kernel) rfl
theorem bm_926 : Cond.methodLink R_law 114 yX10_demand ∈ BIG := bmem 926 (by decide +kernel) rfl
theorem bm_933 : Cond.methodLink R_law 119 yX10_load ∈ BIG := bmem 933 (by decide +kernel) rfl
theorem bm_961 : Cond.methodLink R_law 123 yX10_heaviest ∈ BIG := bmem 961 (by decide +kernel) rfl
theorem bm_969 : Cond.methodLink R_law 127 yX10_repair ∈ BIG := bmem 969 (by decide +kernel) rfl
theorem bm_980 : Cond.methodLink R_law 131 yX10_guards ∈ BIG := bmem 980 (by decide +kernel) rfl
theorem bm_991 : Cond.methodLink R_law 135 yX10_writable ∈ BIG := bmem 991 (by decide +kernel) rfl
theorem bm_1003 : Cond.methodLink R_law 140 yX10_stays ∈ BIG := bmem 1003 (by decide +kernel) rfl
theorem bm_1020 : Cond.methodLink R_law 144 yX10_keep ∈ BIG := bmem 1020 (by decide +kernel) rfl
theorem bm_1028 : Cond.methodLink R_law 148 yX10_take ∈ BIG := bmem 1028 (by decide +kernel) rfl
theorem bm_1032 : Cond.methodLink R_law 152 yX10_feed ∈ BIG := bmem 1032 (by decide +kernel) rfl
theorem bm_1040 : Cond.methodLink R_law 157 yX10_end ∈ BIG := bmem 1040 (by decide +kernel) rfl
theorem bm_1044 : Cond.methodLink R_law 161 yX10_text ∈ BIG := bmem 1044 (by decide +kernel) rfl
theorem bm_1172 : Cond.methodLink R_law 165 yX10_fault ∈ BIG := bmem 1172 (by decide +kernel) rfl
theorem bm_1176 : Cond.methodLink R_law 169 yX10_undo ∈ BIG := bmem 1176 (by decide +kernel) rfl
theorem bm_1184 : Cond.methodLink R_law 173 yX10_at ∈ BIG := bmem 1184 (by decide +kernel) rfl
theorem bm_1188 : Cond.methodLink R_law 177 yX10_linkOf ∈ BIG := bmem 1188 (by decide +kernel) rfl
theorem bm_1192 : Cond.methodLink R_law 181 yX10_binding ∈ BIG := bmem 1192 (by decide +kernel) rfl
theorem bm_1198 : Cond.methodLink R_law 185 yX10_demandOf ∈ BIG := bmem 1198 (by decide +kernel) rfl
theorem bm_1202 : Cond.methodLink R_law 189 yX10_image ∈ BIG := bmem 1202 (by decide +kernel) rfl
theorem bm_1207 : Cond.methodLink R_law 194 yX10_look ∈ BIG := bmem 1207 (by decide +kernel) rfl
theorem bm_1363 : Cond.methodLink R_law 172 yX11_undo ∈ BIG := bmem 1363 (by decide +kernel) rfl
theorem bm_1367 : Cond.methodLink R_law 17 yX11_nodes ∈ BIG := bmem 1367 (by decide +kernel) rfl
theorem bm_1385 : Cond.methodLink R_law 22 yX11_link ∈ BIG := bmem 1385 (by decide +kernel) rfl
theorem bm_1406 : Cond.methodLink R_law 27 yX11_state ∈ BIG := bmem 1406 (by decide +kernel) rfl
theorem bm_1418 : Cond.methodLink R_law 32 yX11_cost ∈ BIG := bmem 1418 (by decide +kernel) rfl
theorem bm_1426 : Cond.methodLink R_law 37 yX11_bind ∈ BIG := bmem 1426 (by decide +kernel) rfl
theorem bm_1440 : Cond.methodLink R_law 41 yX11_unbind ∈ BIG := bmem 1440 (by decide +kernel) rfl
theorem bm_1444 : Cond.methodLink R_law 45 yX11_depth ∈ BIG := bmem 1444 (by decide +kernel) rfl
theorem bm_1449 : Cond.methodLink R_law 50 yX11_on ∈ BIG := bmem 1449 (by decide +kernel) rfl
theorem bm_1469 : Cond.methodLink R_law 54 yX11_off ∈ BIG := bmem 1469 (by decide +kernel) rfl
theorem bm_1473 : Cond.methodLink R_law 58 yX11_label ∈ BIG := bmem 1473 (by decide +kernel) rfl
theorem bm_1486 : Cond.methodLink R_law 62 yX11_pop ∈ BIG := bmem 1486 (by decide +kernel) rfl
theorem bm_1490 : Cond.methodLink R_law 83 yX11_far ∈ BIG := bmem 1490 (by decide +kernel) rfl
theorem bm_1511 : Cond.methodLink R_law 88 yX11_paths ∈ BIG := bmem 1511 (by decide +kernel) rfl
theorem bm_1516 : Cond.methodLink R_law 92 yX11_next ∈ BIG := bmem 1516 (by decide +kernel) rfl
theorem bm_1520 : Cond.methodLink R_law 96 yX11_ends ∈ BIG := bmem 1520 (by decide +kernel) rfl
theorem bm_1580 : Cond.methodLink R_law 100 yX11_exact ∈ BIG := bmem 1580 (by decide +kernel) rfl
theorem bm_1584 : Cond.methodLink R_law 104 yX11_high ∈ BIG := bmem 1584 (by decide +kernel) rfl
theorem bm_1588 : Cond.methodLink R_law 108 yX11_course ∈ BIG := bmem 1588 (by decide +kernel) rfl
theorem bm_1593 : Cond.methodLink R_law 113 yX11_share ∈ BIG := bmem 1593 (by decide +kernel) rfl
theorem bm_1597 : Cond.methodLink R_law 67 yX11_write ∈ BIG := bmem 1597 (by decide +kernel) rfl
theorem bm_1633 : Cond.methodLink R_law 71 yX11_witness ∈ BIG := bmem 1633 (by decide +kernel) rfl
theorem bm_1637 : Cond.methodLink R_law 75 yX11_greedy ∈ BIG := bmem 1637 (by decide +kernel) rfl
theorem bm_1646 : Cond.methodLink R_law 79 yX11_covers ∈ BIG := bmem 1646 (by decide +kernel) rfl
theorem bm_1650 : Cond.methodLink R_law 118 yX11_demand ∈ BIG := bmem 1650 (by decide +kernel) rfl
theorem bm_1659 : Cond.methodLink R_law 122 yX11_load ∈ BIG := bmem 1659 (by decide +kernel) rfl
theorem bm_1671 : Cond.methodLink R_law 126 yX11_heaviest ∈ BIG := bmem 1671 (by decide +kernel) rfl
theorem bm_1679 : Cond.methodLink R_law 130 yX11_repair ∈ BIG := bmem 1679 (by decide +kernel) rfl
theorem bm_1691 : Cond.methodLink R_law 134 yX11_guards ∈ BIG := bmem 1691 (by decide +kernel) rfl
theorem bm_1695 : Cond.methodLink R_law 139 yX11_writable ∈ BIG := bmem 1695 (by decide +kernel) rfl
theorem bm_1703 : Cond.methodLink R_law 143 yX11_stays ∈ BIG := bmem 1703 (by decide +kernel) rfl
theorem bm_1711 : Cond.methodLink R_law 147 yX11_keep ∈ BIG := bmem 1711 (by decide +kernel) rfl
theorem bm_1719 : Cond.methodLink R_law 151 yX11_take ∈ BIG := bmem 1719 (by decide +kernel) rfl
theorem bm_1723 : Cond.methodLink R_law 156 yX11_feed ∈ BIG := bmem 1723 (by decide +kernel) rfl
theorem bm_1731 : Cond.methodLink R_law 160 yX11_end ∈ BIG := bmem 1731 (by decide +kernel) rfl
theorem bm_1735 : Cond.methodLink R_law 164 yX11_text ∈ BIG := bmem 1735 (by decide +kernel) rfl
theorem bm_1804 : Cond.methodLink R_law 168 yX11_fault ∈ BIG := bmem 1804 (by decide +kernel) rfl
theorem bm_1808 : Cond.methodLink R_law 176 yX11_at ∈ BIG := bmem 1808 (by decide +kernel) rfl
theorem bm_1812 : Cond.methodLink R_law 180 yX11_linkOf ∈ BIG := bmem 1812 (by decide +kernel) rfl
theorem bm_1816 : Cond.methodLink R_law 184 yX11_binding ∈ BIG := bmem 1816 (by decide +kernel) rfl
theorem bm_1820 : Cond.methodLink R_law 188 yX11_demandOf ∈ BIG := bmem 1820 (by decide +kernel) rfl
theorem bm_1824 : Cond.methodLink R_law 193 yX11_image ∈ BIG := bmem 1824 (by decide +kernel) rfl
theorem bm_1828 : Cond.methodLink R_law 197 yX11_look ∈ BIG := bmem 1828 (by decide +kernel) rfl
def J_nodes (RR : MH → MH → Prop) : Prop := ∀ (x1 : Int32) (hx hm : MH), RR hx hm → ∃ (r : Int32) (hx' hm' : MH), f_X10_nodes 0 x1 hx = some (r, hx') ∧ f_X11_nodes 0 x1 hm = some (r, hm') ∧ RR hx' hm'
def J_link (RR : MH → MH → Prop) : Prop := ∀ (x1 : Int32) (x2 : Int32) (x3 : Int32) (hx hm : MH), RR hx hm → ∃ (r : Int32) (hx' hm' : MH), f_X10_link 0 x1 x2 x3 hx = some (r, hx') ∧ f_X11_link 0 x1 x2 x3 hm = some (r, hm') ∧ RR hx' hm'
def J_state (RR : MH → MH → Prop) : Prop := ∀ (x1 : Int32) (x2 : Int32) (hx hm : MH), (x2 = 0 ∨ x2 = 1) → RR hx hm → ∃ (r : Int32) (hx' hm' : MH), f_X10_state 0 x1 x2 hx = some (r, hx') ∧ f_X11_state 0 x1 x2 hm = some (r, hm') ∧ RR hx' hm'
def J_cost (RR : MH → MH → Prop) : Prop := ∀ (x1 : Int32) (x2 : Int32) (hx hm : MH), RR hx hm → ∃ (r : Int32) (hx' hm' : MH), f_X10_cost 0 x1 x2 hx = some (r, hx') ∧ f_X11_cost 0 x1 x2 hm = some (r, hm') ∧ RR hx' hm'
def J_bind (RR : MH → MH → Prop) : Prop := ∀ (x1 : Int32) (x2 : Int32) (hx hm : MH), RR hx hm → ∃ (r : Int32) (hx' hm' : MH), f_X10_bind 0 x1 x2 hx = some (r, hx') ∧ f_X11_bind 0 x1 x2 hm = some (r, hm') ∧ RR hx' hm'
def J_unbind (RR : MH → MH → Prop) : Prop := ∀ (x1 : Int32) (hx hm : MH), RR hx hm → ∃ (r : Int32) (hx' hm' : MH), f_X10_unbind 0 x1 hx = some (r, hx') ∧ f_X11_unbind 0 x1 hm = some (r, hm') ∧ RR hx' hm'
def J_depth (RR : MH → MH → Prop) : Prop := ∀ (x1 : Int32) (hx hm : MH), RR hx hm → ∃ (r : Int32) (hx' hm' : MH), f_X10_depth 0 x1 hx = some (r, hx') ∧ f_X11_depth 0 x1 hm = some (r, hm') ∧ RR hx' hm'
def J_on (RR : MH → MH → Prop) : Prop := ∀ (x1 : Int32) (hx hm : MH), RR hx hm → ∃ (r : Int32) (hx' hm' : MH), f_X10_on 0 x1 hx = some (r, hx') ∧ f_X11_on 0 x1 hm = some (r, hm') ∧ RR hx' hm'
def J_off (RR : MH → MH → Prop) : Prop := ∀ (x1 : Int32) (hx hm : MH), RR hx hm → ∃ (r : Int32) (hx' hm' : MH), f_X10_off 0 x1 hx = some (r, hx') ∧ f_X11_off 0 x1 hm = some (r, hm') ∧ RR hx' hm'
def J_label (RR : MH → MH → Prop) : Prop := ∀ (x1 : Int32) (hx hm : MH), RR hx hm → ∃ (r : Int32) (hx' hm' : MH), f_X10_label 0 x1 hx = some (r, hx') ∧ f_X11_label 0 x1 hm = some (r, hm') ∧ RR hx' hm'
def J_pop (RR : MH → MH → Prop) : Prop := ∀ (x1 : Int32) (hx hm : MH), RR hx hm → ∃ (r : Int32) (hx' hm' : MH), f_X10_pop 0 x1 hx = some (r, hx') ∧ f_X11_pop 0 x1 hm = some (r, hm') ∧ RR hx' hm'
def J_write (RR : MH → MH → Prop) : Prop := ∀ (hx hm : MH), RR hx hm → ∃ (r : Int32) (hx' hm' : MH), f_X10_write 0  hx = some (r, hx') ∧ f_X11_write 0  hm = some (r, hm') ∧ RR hx' hm'
def J_witness (RR : MH → MH → Prop) : Prop := ∀ (hx hm : MH), RR hx hm → ∃ (r : Int32) (hx' hm' : MH), f_X10_witness 0  hx = some (r, hx') ∧ f_X11_witness 0  hm = some (r, hm') ∧ RR hx' hm'
def J_greedy (RR : MH → MH → Prop) : Prop := ∀ (hx hm : MH), RR hx hm → ∃ (r : Int32) (hx' hm' : MH), f_X10_greedy 0  hx = some (r, hx') ∧ f_X11_greedy 0  hm = some (r, hm') ∧ RR hx' hm'
def J_covers (RR : MH → MH → Prop) : Prop := ∀ (x1 : Int32) (hx hm : MH), RR hx hm → ∃ (r : Int32) (hx' hm' : MH), f_X10_covers 0 x1 hx = some (r, hx') ∧ f_X11_covers 0 x1 hm = some (r, hm') ∧ RR hx' hm'
def J_far (RR : MH → MH → Prop) : Prop := ∀ (x1 : Int32) (x2 : Int32) (hx hm : MH), RR hx hm → ∃ (r : Int32) (hx' hm' : MH), f_X10_far 0 x1 x2 hx = some (r, hx') ∧ f_X11_far 0 x1 x2 hm = some (r, hm') ∧ RR hx' hm'
def J_paths (RR : MH → MH → Prop) : Prop := ∀ (x1 : Int32) (x2 : Int32) (hx hm : MH), RR hx hm → ∃ (r : Int64) (hx' hm' : MH), f_X10_paths 0 x1 x2 hx = some (r, hx') ∧ f_X11_paths 0 x1 x2 hm = some (r, hm') ∧ RR hx' hm'
def J_next (RR : MH → MH → Prop) : Prop := ∀ (x1 : Int32) (x2 : Int32) (hx hm : MH), RR hx hm → ∃ (r : Int32) (hx' hm' : MH), f_X10_next 0 x1 x2 hx = some (r, hx') ∧ f_X11_next 0 x1 x2 hm = some (r, hm') ∧ RR hx' hm'
def J_ends (RR : MH → MH → Prop) : Prop := ∀ (x1 : Int32) (hx hm : MH), RR hx hm → ∃ (r : Int32) (hx' hm' : MH), f_X10_ends 0 x1 hx = some (r, hx') ∧ f_X11_ends 0 x1 hm = some (r, hm') ∧ RR hx' hm'
def J_exact (RR : MH → MH → Prop) : Prop := ∀ (x1 : Int32) (hx hm : MH), RR hx hm → ∃ (r : Int32) (hx' hm' : MH), f_X10_exact 0 x1 hx = some (r, hx') ∧ f_X11_exact 0 x1 hm = some (r, hm') ∧ RR hx' hm'
def J_high (RR : MH → MH → Prop) : Prop := ∀ (x1 : Int32) (hx hm : MH), RR hx hm → ∃ (r : Int32) (hx' hm' : MH), f_X10_high 0 x1 hx = some (r, hx') ∧ f_X11_high 0 x1 hm = some (r, hm') ∧ RR hx' hm'
def J_course (RR : MH → MH → Prop) : Prop := ∀ (x1 : Int32) (hx hm : MH), RR hx hm → ∃ (r : Int32) (hx' hm' : MH), f_X10_course 0 x1 hx = some (r, hx') ∧ f_X11_course 0 x1 hm = some (r, hm') ∧ RR hx' hm'
def J_share (RR : MH → MH → Prop) : Prop := ∀ (x1 : Int32) (x2 : Int32) (x3 : Int32) (hx hm : MH), RR hx hm → ∃ (r : Int64) (hx' hm' : MH), f_X10_share 0 x1 x2 x3 hx = some (r, hx') ∧ f_X11_share 0 x1 x2 x3 hm = some (r, hm') ∧ RR hx' hm'
def J_demand (RR : MH → MH → Prop) : Prop := ∀ (x1 : Int32) (x2 : Int32) (x3 : Int32) (hx hm : MH), RR hx hm → ∃ (r : Int32) (hx' hm' : MH), f_X10_demand 0 x1 x2 x3 hx = some (r, hx') ∧ f_X11_demand 0 x1 x2 x3 hm = some (r, hm') ∧ RR hx' hm'
def J_load (RR : MH → MH → Prop) : Prop := ∀ (x1 : Int32) (x2 : Int32) (hx hm : MH), RR hx hm → ∃ (r : Int64) (hx' hm' : MH), f_X10_load 0 x1 x2 hx = some (r, hx') ∧ f_X11_load 0 x1 x2 hm = some (r, hm') ∧ RR hx' hm'
def J_heaviest (RR : MH → MH → Prop) : Prop := ∀ (hx hm : MH), RR hx hm → ∃ (r : Int32) (hx' hm' : MH), f_X10_heaviest 0  hx = some (r, hx') ∧ f_X11_heaviest 0  hm = some (r, hm') ∧ RR hx' hm'
def J_repair (RR : MH → MH → Prop) : Prop := ∀ (x1 : Int32) (x2 : Int32) (hx hm : MH), RR hx hm → ∃ (r : Int32) (hx' hm' : MH), f_X10_repair 0 x1 x2 hx = some (r, hx') ∧ f_X11_repair 0 x1 x2 hm = some (r, hm') ∧ RR hx' hm'
def J_guards (RR : MH → MH → Prop) : Prop := ∀ (x1 : Int32) (hx hm : MH), RR hx hm → ∃ (r : Int32) (hx' hm' : MH), f_X10_guards 0 x1 hx = some (r, hx') ∧ f_X11_guards 0 x1 hm = some (r, hm') ∧ RR hx' hm'
def J_writable (RR : MH → MH → Prop) : Prop := ∀ (x1 : Int32) (x2 : Int32) (x3 : Int32) (x4 : Int32) (hx hm : MH), RR hx hm → ∃ (r : Int32) (hx' hm' : MH), f_X10_writable 0 x1 x2 x3 x4 hx = some (r, hx') ∧ f_X11_writable 0 x1 x2 x3 x4 hm = some (r, hm') ∧ RR hx' hm'
def J_stays (RR : MH → MH → Prop) : Prop := ∀ (x1 : Int32) (x2 : Int32) (hx hm : MH), RR hx hm → ∃ (r : Int32) (hx' hm' : MH), f_X10_stays 0 x1 x2 hx = some (r, hx') ∧ f_X11_stays 0 x1 x2 hm = some (r, hm') ∧ RR hx' hm'
def J_keep (RR : MH → MH → Prop) : Prop := ∀ (hx hm : MH), RR hx hm → ∃ (r : Int32) (hx' hm' : MH), f_X10_keep 0  hx = some (r, hx') ∧ f_X11_keep 0  hm = some (r, hm') ∧ RR hx' hm'
def J_take (RR : MH → MH → Prop) : Prop := ∀ (x1 : Int32) (hx hm : MH), RR hx hm → ∃ (r : Int32) (hx' hm' : MH), f_X10_take 0 x1 hx = some (r, hx') ∧ f_X11_take 0 x1 hm = some (r, hm') ∧ RR hx' hm'
def J_feed (RR : MH → MH → Prop) : Prop := ∀ (x1 : Int32) (x2 : Int32) (x3 : Int32) (x4 : Int32) (x5 : Int32) (hx hm : MH), RR hx hm → ∃ (r : Int32) (hx' hm' : MH), f_X10_feed 0 x1 x2 x3 x4 x5 hx = some (r, hx') ∧ f_X11_feed 0 x1 x2 x3 x4 x5 hm = some (r, hm') ∧ RR hx' hm'
def J_end (RR : MH → MH → Prop) : Prop := ∀ (x1 : Int32) (hx hm : MH), RR hx hm → ∃ (r : Int32) (hx' hm' : MH), f_X10_end 0 x1 hx = some (r, hx') ∧ f_X11_end 0 x1 hm = some (r, hm') ∧ RR hx' hm'
def J_text (RR : MH → MH → Prop) : Prop := ∀ (hx hm : MH), RR hx hm → ∃ (r : Int32) (hx' hm' : MH), f_X10_text 0  hx = some (r, hx') ∧ f_X11_text 0  hm = some (r, hm') ∧ RR hx' hm'
def J_fault (RR : MH → MH → Prop) : Prop := ∀ (x1 : Int32) (hx hm : MH), RR hx hm → ∃ (r : Int32) (hx' hm' : MH), f_X10_fault 0 x1 hx = some (r, hx') ∧ f_X11_fault 0 x1 hm = some (r, hm') ∧ RR hx' hm'
def J_undo (RR : MH → MH → Prop) : Prop := ∀ (hx hm : MH), RR hx hm → ∃ (r : Int32) (hx' hm' : MH), f_X10_undo 0  hx = some (r, hx') ∧ f_X11_undo 0  hm = some (r, hm') ∧ RR hx' hm'
def J_at (RR : MH → MH → Prop) : Prop := ∀ (x1 : Int32) (x2 : Int32) (hx hm : MH), RR hx hm → ∃ (r : Int32) (hx' hm' : MH), f_X10_at 0 x1 x2 hx = some (r, hx') ∧ f_X11_at 0 x1 x2 hm = some (r, hm') ∧ RR hx' hm'
def J_linkOf (RR : MH → MH → Prop) : Prop := ∀ (x1 : Int32) (x2 : Int32) (hx hm : MH), RR hx hm → ∃ (r : Int32) (hx' hm' : MH), f_X10_linkOf 0 x1 x2 hx = some (r, hx') ∧ f_X11_linkOf 0 x1 x2 hm = some (r, hm') ∧ RR hx' hm'
def J_binding (RR : MH → MH → Prop) : Prop := ∀ (x1 : Int32) (x2 : Int32) (hx hm : MH), RR hx hm → ∃ (r : Int32) (hx' hm' : MH), f_X10_binding 0 x1 x2 hx = some (r, hx') ∧ f_X11_binding 0 x1 x2 hm = some (r, hm') ∧ RR hx' hm'
def J_demandOf (RR : MH → MH → Prop) : Prop := ∀ (x1 : Int32) (x2 : Int32) (hx hm : MH), RR hx hm → ∃ (r : Int32) (hx' hm' : MH), f_X10_demandOf 0 x1 x2 hx = some (r, hx') ∧ f_X11_demandOf 0 x1 x2 hm = some (r, hm') ∧ RR hx' hm'
def J_image (RR : MH → MH → Prop) : Prop := ∀ (x1 : Int32) (hx hm : MH), (x1 = 0 ∨ x1 = 1) → RR hx hm → ∃ (r : Int32) (hx' hm' : MH), f_X10_image 0 x1 hx = some (r, hx') ∧ f_X11_image 0 x1 hm = some (r, hm') ∧ RR hx' hm'
def J_look (RR : MH → MH → Prop) : Prop := ∀ (x1 : Int32) (hx hm : MH), RR hx hm → ∃ (r : Int32) (hx' hm' : MH), f_X10_look 0 x1 hx = some (r, hx') ∧ f_X11_look 0 x1 hm = some (r, hm') ∧ RR hx' hm'
set_option maxRecDepth 100000 in
set_option maxHeartbeats 4000000 in
theorem lc_nodes {l : Launch} {G : GE} {b L : Nat} {xs : Nat → Int32} {x3 : Int32} {RR : MH → MH → Prop} (hJ : J_nodes RR) (hi1 : vp_in (x3 + 1) L) (hi2 : vp_in (x3 + 2) L) (hi3 : vp_in (x3 + 3) L) (hi4 : vp_in (x3 + 4) L) (hi5 : vp_in (x3 + 5) L) {hx hm : MH} (hR : RR hx hm) (kk : ∀ hx' hm', RR hx' hm' → LJ l G b L xs 1434 x3 [] hx' hm') : LJ l G b L xs 220 x3 [] hx hm := by
  refine L_aload (pc' := 221) (q := 0) dL_law_220 rfl (by decide) ?_
  refine L_aload (pc' := 222) (q := 2) dL_law_221 rfl (by decide) ?_
  refine L_iload (pc' := 223) dL_law_222 rfl ?_
  refine L_iconst (v := 1) (pc' := 224) dL_law_223 rfl (by decide) ?_
  refine L_iadd (pc' := 225) dL_law_224 rfl ?_
  refine L_sld (pc' := 226) dL_law_225 rfl hi1 rfl ?_
  obtain ⟨r, hx', hm', e1, e2, hR'⟩ := hJ (xs (x3 + 1).toNatClampNeg) hx hm  hR
  refine L_cxI (r, hx') (pc' := 229) (As := [(xs (x3 + 1).toNatClampNeg)]) (rest := []) dL_law_226 rfl mok_X10_nodes bm_510 rfl rfl rfl (Nat.le_of_ble_eq_true rfl) (fun _ _ _ => rfl) (by decide) (ct_X10_nodes rfl e1) ?_
  refine L_aload (pc' := 230) (q := 1) dL_law_229 rfl (by decide) ?_
  refine L_aload (pc' := 231) (q := 2) dL_law_230 rfl (by decide) ?_
  refine L_iload (pc' := 232) dL_law_231 rfl ?_
  refine L_iconst (v := 1) (pc' := 233) dL_law_232 rfl (by decide) ?_
  refine L_iadd (pc' := 234) dL_law_233 rfl ?_
  refine L_sld (pc' := 235) dL_law_234 rfl hi1 rfl ?_
  refine L_cmI (r, hm') (pc' := 238) (As := [(xs (x3 + 1).toNatClampNeg)]) (rest := [.int r]) dL_law_235 rfl mok_X11_nodes bm_1367 rfl rfl rfl (Nat.le_of_ble_eq_true rfl) (fun _ _ _ => rfl) (by decide) (ct_X11_nodes rfl e2) ?_
  refine L_eq (tgt := 1434) dL_law_238 (by decide) rfl ?_
  exact kk _ _ hR'
set_option maxRecDepth 100000 in
set_option maxHeartbeats 4000000 in
theorem lc_link {l : Launch} {G : GE} {b L : Nat} {xs : Nat → Int32} {x3 : Int32} {RR : MH → MH → Prop} (hJ : J_link RR) (hi1 : vp_in (x3 + 1) L) (hi2 : vp_in (x3 + 2) L) (hi3 : vp_in (x3 + 3) L) (hi4 : vp_in (x3 + 4) L) (hi5 : vp_in (x3 + 5) L) {hx hm : MH} (hR : RR hx hm) (kk : ∀ hx' hm', RR hx' hm' → LJ l G b L xs 1434 x3 [] hx' hm') : LJ l G b L xs 243 x3 [] hx hm := by
  refine L_aload (pc' := 244) (q := 0) dL_law_243 rfl (by decide) ?_
  refine L_aload (pc' := 245) (q := 2) dL_law_244 rfl (by decide) ?_
  refine L_iload (pc' := 246) dL_law_245 rfl ?_
  refine L_iconst (v := 1) (pc' := 247) dL_law_246 rfl (by decide) ?_
  refine L_iadd (pc' := 248) dL_law_247 rfl ?_
  refine L_sld (pc' := 249) dL_law_248 rfl hi1 rfl ?_
  refine L_aload (pc' := 250) (q := 2) dL_law_249 rfl (by decide) ?_
  refine L_iload (pc' := 251) dL_law_250 rfl ?_
  refine L_iconst (v := 2) (pc' := 252) dL_law_251 rfl (by decide) ?_
  refine L_iadd (pc' := 253) dL_law_252 rfl ?_
  refine L_sld (pc' := 254) dL_law_253 rfl hi2 rfl ?_
  refine L_aload (pc' := 255) (q := 2) dL_law_254 rfl (by decide) ?_
  refine L_iload (pc' := 256) dL_law_255 rfl ?_
  refine L_iconst (v := 3) (pc' := 257) dL_law_256 rfl (by decide) ?_
  refine L_iadd (pc' := 258) dL_law_257 rfl ?_
  refine L_sld (pc' := 259) dL_law_258 rfl hi3 rfl ?_
  obtain ⟨r, hx', hm', e1, e2, hR'⟩ := hJ (xs (x3 + 1).toNatClampNeg) (xs (x3 + 2).toNatClampNeg) (xs (x3 + 3).toNatClampNeg) hx hm  hR
  refine L_cxI (r, hx') (pc' := 262) (As := [(xs (x3 + 1).toNatClampNeg), (xs (x3 + 2).toNatClampNeg), (xs (x3 + 3).toNatClampNeg)]) (rest := []) dL_law_259 rfl mok_X10_link bm_565 rfl rfl rfl (Nat.le_of_ble_eq_true rfl) (fun _ _ _ => rfl) (by decide) (ct_X10_link rfl e1) ?_
  refine L_aload (pc' := 263) (q := 1) dL_law_262 rfl (by decide) ?_
  refine L_aload (pc' := 264) (q := 2) dL_law_263 rfl (by decide) ?_
  refine L_iload (pc' := 265) dL_law_264 rfl ?_
  refine L_iconst (v := 1) (pc' := 266) dL_law_265 rfl (by decide) ?_
  refine L_iadd (pc' := 267) dL_law_266 rfl ?_
  refine L_sld (pc' := 268) dL_law_267 rfl hi1 rfl ?_
  refine L_aload (pc' := 269) (q := 2) dL_law_268 rfl (by decide) ?_
  refine L_iload (pc' := 270) dL_law_269 rfl ?_
  refine L_iconst (v := 2) (pc' := 271) dL_law_270 rfl (by decide) ?_
  refine L_iadd (pc' := 272) dL_law_271 rfl ?_
  refine L_sld (pc' := 273) dL_law_272 rfl hi2 rfl ?_
  refine L_aload (pc' := 274) (q := 2) dL_law_273 rfl (by decide) ?_
  refine L_iload (pc' := 275) dL_law_274 rfl ?_
  refine L_iconst (v := 3) (pc' := 276) dL_law_275 rfl (by decide) ?_
  refine L_iadd (pc' := 277) dL_law_276 rfl ?_
  refine L_sld (pc' := 278) dL_law_277 rfl hi3 rfl ?_
  refine L_cmI (r, hm') (pc' := 281) (As := [(xs (x3 + 1).toNatClampNeg), (xs (x3 + 2).toNatClampNeg), (xs (x3 + 3).toNatClampNeg)]) (rest := [.int r]) dL_law_278 rfl mok_X11_link bm_1385 rfl rfl rfl (Nat.le_of_ble_eq_true rfl) (fun _ _ _ => rfl) (by decide) (ct_X11_link rfl e2) ?_
  refine L_eq (tgt := 1434) dL_law_281 (by decide) rfl ?_
  exact kk _ _ hR'
set_option maxRecDepth 100000 in
set_option maxHeartbeats 4000000 in
theorem lc_state {l : Launch} {G : GE} {b L : Nat} {xs : Nat → Int32} {x3 : Int32} {RR : MH → MH → Prop} (hJ : J_state RR) (hi1 : vp_in (x3 + 1) L) (hi2 : vp_in (x3 + 2) L) (hi3 : vp_in (x3 + 3) L) (hi4 : vp_in (x3 + 4) L) (hi5 : vp_in (x3 + 5) L) {hx hm : MH} (hR : RR hx hm) (kk : ∀ hx' hm', RR hx' hm' → LJ l G b L xs 1434 x3 [] hx' hm') : LJ l G b L xs 286 x3 [] hx hm := by
  refine L_aload (pc' := 287) (q := 0) dL_law_286 rfl (by decide) ?_
  refine L_aload (pc' := 288) (q := 2) dL_law_287 rfl (by decide) ?_
  refine L_iload (pc' := 289) dL_law_288 rfl ?_
  refine L_iconst (v := 1) (pc' := 290) dL_law_289 rfl (by decide) ?_
  refine L_iadd (pc' := 291) dL_law_290 rfl ?_
  refine L_sld (pc' := 292) dL_law_291 rfl hi1 rfl ?_
  refine L_aload (pc' := 293) (q := 2) dL_law_292 rfl (by decide) ?_
  refine L_iload (pc' := 294) dL_law_293 rfl ?_
  refine L_iconst (v := 2) (pc' := 295) dL_law_294 rfl (by decide) ?_
  refine L_iadd (pc' := 296) dL_law_295 rfl ?_
  refine L_sld (pc' := 297) dL_law_296 rfl hi2 rfl ?_
  refine L_eq0 (tgt := 304) (pc' := 300) dL_law_297 (by decide) rfl (fun cb2 => ?_) (fun cb2 => ?_)
  ·
    refine L_iconst (v := 0) (pc' := 305) dL_law_304 rfl (by decide) ?_
    obtain ⟨r, hx', hm', e1, e2, hR'⟩ := hJ (xs (x3 + 1).toNatClampNeg) 0 hx hm (by decide) hR
    refine L_cxI (r, hx') (pc' := 308) (As := [(xs (x3 + 1).toNatClampNeg), 0]) (rest := []) dL_law_305 rfl mok_X10_state bm_585 rfl rfl rfl (Nat.le_of_ble_eq_true rfl) (fun _ _ _ => rfl) (by decide) (ct_X10_state rfl e1) ?_
    refine L_aload (pc' := 309) (q := 1) dL_law_308 rfl (by decide) ?_
    refine L_aload (pc' := 310) (q := 2) dL_law_309 rfl (by decide) ?_
    refine L_iload (pc' := 311) dL_law_310 rfl ?_
    refine L_iconst (v := 1) (pc' := 312) dL_law_311 rfl (by decide) ?_
    refine L_iadd (pc' := 313) dL_law_312 rfl ?_
    refine L_sld (pc' := 314) dL_law_313 rfl hi1 rfl ?_
    refine L_aload (pc' := 315) (q := 2) dL_law_314 rfl (by decide) ?_
    refine L_iload (pc' := 316) dL_law_315 rfl ?_
    refine L_iconst (v := 2) (pc' := 317) dL_law_316 rfl (by decide) ?_
    refine L_iadd (pc' := 318) dL_law_317 rfl ?_
    refine L_sld (pc' := 319) dL_law_318 rfl hi2 rfl ?_
    refine L_eq0 (tgt := 326) (pc' := 322) dL_law_319 (by decide) rfl (fun _ => ?_) (fun q => absurd cb2 q)
    refine L_iconst (v := 0) (pc' := 327) dL_law_326 rfl (by decide) ?_
    refine L_cmI (r, hm') (pc' := 330) (As := [(xs (x3 + 1).toNatClampNeg), 0]) (rest := [.int r]) dL_law_327 rfl mok_X11_state bm_1406 rfl rfl rfl (Nat.le_of_ble_eq_true rfl) (fun _ _ _ => rfl) (by decide) (ct_X11_state rfl e2) ?_
    refine L_eq (tgt := 1434) dL_law_330 (by decide) rfl ?_
    exact kk _ _ hR'
  ·
    refine L_iconst (v := 1) (pc' := 301) dL_law_300 rfl (by decide) ?_
    refine L_goto (tgt := 305) dL_law_301 (by decide) ?_
    obtain ⟨r, hx', hm', e1, e2, hR'⟩ := hJ (xs (x3 + 1).toNatClampNeg) 1 hx hm (by decide) hR
    refine L_cxI (r, hx') (pc' := 308) (As := [(xs (x3 + 1).toNatClampNeg), 1]) (rest := []) dL_law_305 rfl mok_X10_state bm_585 rfl rfl rfl (Nat.le_of_ble_eq_true rfl) (fun _ _ _ => rfl) (by decide) (ct_X10_state rfl e1) ?_
    refine L_aload (pc' := 309) (q := 1) dL_law_308 rfl (by decide) ?_
    refine L_aload (pc' := 310) (q := 2) dL_law_309 rfl (by decide) ?_
    refine L_iload (pc' := 311) dL_law_310 rfl ?_
    refine L_iconst (v := 1) (pc' := 312) dL_law_311 rfl (by decide) ?_
    refine L_iadd (pc' := 313) dL_law_312 rfl ?_
    refine L_sld (pc' := 314) dL_law_313 rfl hi1 rfl ?_
    refine L_aload (pc' := 315) (q := 2) dL_law_314 rfl (by decide) ?_
    refine L_iload (pc' := 316) dL_law_315 rfl ?_
    refine L_iconst (v := 2) (pc' := 317) dL_law_316 rfl (by decide) ?_
    refine L_iadd (pc' := 318) dL_law_317 rfl ?_
    refine L_sld (pc' := 319) dL_law_318 rfl hi2 rfl ?_
    refine L_eq0 (tgt := 326) (pc' := 322) dL_law_319 (by decide) rfl (fun q => absurd q cb2) (fun _ => ?_)
    refine L_iconst (v := 1) (pc' := 323) dL_law_322 rfl (by decide) ?_
    refine L_goto (tgt := 327) dL_law_323 (by decide) ?_
    refine L_cmI (r, hm') (pc' := 330) (As := [(xs (x3 + 1).toNatClampNeg), 1]) (rest := [.int r]) dL_law_327 rfl mok_X11_state bm_1406 rfl rfl rfl (Nat.le_of_ble_eq_true rfl) (fun _ _ _ => rfl) (by decide) (ct_X11_state rfl e2) ?_
    refine L_eq (tgt := 1434) dL_law_330 (by decide) rfl ?_
    exact kk _ _ hR'
set_option maxRecDepth 100000 in
set_option maxHeartbeats 4000000 in
theorem lc_cost {l : Launch} {G : GE} {b L : Nat} {xs : Nat → Int32} {x3 : Int32} {RR : MH → MH → Prop} (hJ : J_cost RR) (hi1 : vp_in (x3 + 1) L) (hi2 : vp_in (x3 + 2) L) (hi3 : vp_in (x3 + 3) L) (hi4 : vp_in (x3 + 4) L) (hi5 : vp_in (x3 + 5) L) {hx hm : MH} (hR : RR hx hm) (kk : ∀ hx' hm', RR hx' hm' → LJ l G b L xs 1434 x3 [] hx' hm') : LJ l G b L xs 335 x3 [] hx hm := by
  refine L_aload (pc' := 336) (q := 0) dL_law_335 rfl (by decide) ?_
  refine L_aload (pc' := 337) (q := 2) dL_law_336 rfl (by decide) ?_
  refine L_iload (pc' := 338) dL_law_337 rfl ?_
  refine L_iconst (v := 1) (pc' := 339) dL_law_338 rfl (by decide) ?_
  refine L_iadd (pc' := 340) dL_law_339 rfl ?_
  refine L_sld (pc' := 341) dL_law_340 rfl hi1 rfl ?_
  refine L_aload (pc' := 342) (q := 2) dL_law_341 rfl (by decide) ?_
  refine L_iload (pc' := 343) dL_law_342 rfl ?_
  refine L_iconst (v := 2) (pc' := 344) dL_law_343 rfl (by decide) ?_
  refine L_iadd (pc' := 345) dL_law_344 rfl ?_
  refine L_sld (pc' := 346) dL_law_345 rfl hi2 rfl ?_
  obtain ⟨r, hx', hm', e1, e2, hR'⟩ := hJ (xs (x3 + 1).toNatClampNeg) (xs (x3 + 2).toNatClampNeg) hx hm  hR
  refine L_cxI (r, hx') (pc' := 349) (As := [(xs (x3 + 1).toNatClampNeg), (xs (x3 + 2).toNatClampNeg)]) (rest := []) dL_law_346 rfl mok_X10_cost bm_598 rfl rfl rfl (Nat.le_of_ble_eq_true rfl) (fun _ _ _ => rfl) (by decide) (ct_X10_cost rfl e1) ?_
  refine L_aload (pc' := 350) (q := 1) dL_law_349 rfl (by decide) ?_
  refine L_aload (pc' := 351) (q := 2) dL_law_350 rfl (by decide) ?_
  refine L_iload (pc' := 352) dL_law_351 rfl ?_
  refine L_iconst (v := 1) (pc' := 353) dL_law_352 rfl (by decide) ?_
  refine L_iadd (pc' := 354) dL_law_353 rfl ?_
  refine L_sld (pc' := 355) dL_law_354 rfl hi1 rfl ?_
  refine L_aload (pc' := 356) (q := 2) dL_law_355 rfl (by decide) ?_
  refine L_iload (pc' := 357) dL_law_356 rfl ?_
  refine L_iconst (v := 2) (pc' := 358) dL_law_357 rfl (by decide) ?_
  refine L_iadd (pc' := 359) dL_law_358 rfl ?_
  refine L_sld (pc' := 360) dL_law_359 rfl hi2 rfl ?_
  refine L_cmI (r, hm') (pc' := 363) (As := [(xs (x3 + 1).toNatClampNeg), (xs (x3 + 2).toNatClampNeg)]) (rest := [.int r]) dL_law_360 rfl mok_X11_cost bm_1418 rfl rfl rfl (Nat.le_of_ble_eq_true rfl) (fun _ _ _ => rfl) (by decide) (ct_X11_cost rfl e2) ?_
  refine L_eq (tgt := 1434) dL_law_363 (by decide) rfl ?_
  exact kk _ _ hR'
set_option maxRecDepth 100000 in
set_option maxHeartbeats 4000000 in
theorem lc_bind {l : Launch} {G : GE} {b L : Nat} {xs : Nat → Int32} {x3 : Int32} {RR : MH → MH → Prop} (hJ : J_bind RR) (hi1 : vp_in (x3 + 1) L) (hi2 : vp_in (x3 + 2) L) (hi3 : vp_in (x3 + 3) L) (hi4 : vp_in (x3 + 4) L) (hi5 : vp_in (x3 + 5) L) {hx hm : MH} (hR : RR hx hm) (kk : ∀ hx' hm', RR hx' hm' → LJ l G b L xs 1434 x3 [] hx' hm') : LJ l G b L xs 368 x3 [] hx hm := by
  refine L_aload (pc' := 369) (q := 0) dL_law_368 rfl (by decide) ?_
  refine L_aload (pc' := 370) (q := 2) dL_law_369 rfl (by decide) ?_
  refine L_iload (pc' := 371) dL_law_370 rfl ?_
  refine L_iconst (v := 1) (pc' := 372) dL_law_371 rfl (by decide) ?_
  refine L_iadd (pc' := 373) dL_law_372 rfl ?_
  refine L_sld (pc' := 374) dL_law_373 rfl hi1 rfl ?_
  refine L_aload (pc' := 375) (q := 2) dL_law_374 rfl (by decide) ?_
  refine L_iload (pc' := 376) dL_law_375 rfl ?_
  refine L_iconst (v := 2) (pc' := 377) dL_law_376 rfl (by decide) ?_
  refine L_iadd (pc' := 378) dL_law_377 rfl ?_
  refine L_sld (pc' := 379) dL_law_378 rfl hi2 rfl ?_
  obtain ⟨r, hx', hm', e1, e2, hR'⟩ := hJ (xs (x3 + 1).toNatClampNeg) (xs (x3 + 2).toNatClampNeg) hx hm  hR
  refine L_cxI (r, hx') (pc' := 382) (As := [(xs (x3 + 1).toNatClampNeg), (xs (x3 + 2).toNatClampNeg)]) (rest := []) dL_law_379 rfl mok_X10_bind bm_602 rfl rfl rfl (Nat.le_of_ble_eq_true rfl) (fun _ _ _ => rfl) (by decide) (ct_X10_bind rfl e1) ?_
  refine L_aload (pc' := 383) (q := 1) dL_law_382 rfl (by decide) ?_
  refine L_aload (pc' := 384) (q := 2) dL_law_383 rfl (by decide) ?_
  refine L_iload (pc' := 385) dL_law_384 rfl ?_
  refine L_iconst (v := 1) (pc' := 386) dL_law_385 rfl (by decide) ?_
  refine L_iadd (pc' := 387) dL_law_386 rfl ?_
  refine L_sld (pc' := 388) dL_law_387 rfl hi1 rfl ?_
  refine L_aload (pc' := 389) (q := 2) dL_law_388 rfl (by decide) ?_
  refine L_iload (pc' := 390) dL_law_389 rfl ?_
  refine L_iconst (v := 2) (pc' := 391) dL_law_390 rfl (by decide) ?_
  refine L_iadd (pc' := 392) dL_law_391 rfl ?_
  refine L_sld (pc' := 393) dL_law_392 rfl hi2 rfl ?_
  refine L_cmI (r, hm') (pc' := 396) (As := [(xs (x3 + 1).toNatClampNeg), (xs (x3 + 2).toNatClampNeg)]) (rest := [.int r]) dL_law_393 rfl mok_X11_bind bm_1426 rfl rfl rfl (Nat.le_of_ble_eq_true rfl) (fun _ _ _ => rfl) (by decide) (ct_X11_bind rfl e2) ?_
  refine L_eq (tgt := 1434) dL_law_396 (by decide) rfl ?_
  exact kk _ _ hR'
set_option maxRecDepth 100000 in
set_option maxHeartbeats 4000000 in
theorem lc_unbind {l : Launch} {G : GE} {b L : Nat} {xs : Nat → Int32} {x3 : Int32} {RR : MH → MH → Prop} (hJ : J_unbind RR) (hi1 : vp_in (x3 + 1) L) (hi2 : vp_in (x3 + 2) L) (hi3 : vp_in (x3 + 3) L) (hi4 : vp_in (x3 + 4) L) (hi5 : vp_in (x3 + 5) L) {hx hm : MH} (hR : RR hx hm) (kk : ∀ hx' hm', RR hx' hm' → LJ l G b L xs 1434 x3 [] hx' hm') : LJ l G b L xs 401 x3 [] hx hm := by
  refine L_aload (pc' := 402) (q := 0) dL_law_401 rfl (by decide) ?_
  refine L_aload (pc' := 403) (q := 2) dL_law_402 rfl (by decide) ?_
  refine L_iload (pc' := 404) dL_law_403 rfl ?_
  refine L_iconst (v := 1) (pc' := 405) dL_law_404 rfl (by decide) ?_
  refine L_iadd (pc' := 406) dL_law_405 rfl ?_
  refine L_sld (pc' := 407) dL_law_406 rfl hi1 rfl ?_
  obtain ⟨r, hx', hm', e1, e2, hR'⟩ := hJ (xs (x3 + 1).toNatClampNeg) hx hm  hR
  refine L_cxI (r, hx') (pc' := 410) (As := [(xs (x3 + 1).toNatClampNeg)]) (rest := []) dL_law_407 rfl mok_X10_unbind bm_630 rfl rfl rfl (Nat.le_of_ble_eq_true rfl) (fun _ _ _ => rfl) (by decide) (ct_X10_unbind rfl e1) ?_
  refine L_aload (pc' := 411) (q := 1) dL_law_410 rfl (by decide) ?_
  refine L_aload (pc' := 412) (q := 2) dL_law_411 rfl (by decide) ?_
  refine L_iload (pc' := 413) dL_law_412 rfl ?_
  refine L_iconst (v := 1) (pc' := 414) dL_law_413 rfl (by decide) ?_
  refine L_iadd (pc' := 415) dL_law_414 rfl ?_
  refine L_sld (pc' := 416) dL_law_415 rfl hi1 rfl ?_
  refine L_cmI (r, hm') (pc' := 419) (As := [(xs (x3 + 1).toNatClampNeg)]) (rest := [.int r]) dL_law_416 rfl mok_X11_unbind bm_1440 rfl rfl rfl (Nat.le_of_ble_eq_true rfl) (fun _ _ _ => rfl) (by decide) (ct_X11_unbind rfl e2) ?_
  refine L_eq (tgt := 1434) dL_law_419 (by decide) rfl ?_
  exact kk _ _ hR'
set_option maxRecDepth 100000 in
set_option maxHeartbeats 4000000 in
theorem lc_depth {l : Launch} {G : GE} {b L : Nat} {xs : Nat → Int32} {x3 : Int32} {RR : MH → MH → Prop} (hJ : J_depth RR) (hi1 : vp_in (x3 + 1) L) (hi2 : vp_in (x3 + 2) L) (hi3 : vp_in (x3 + 3) L) (hi4 : vp_in (x3 + 4) L) (hi5 : vp_in (x3 + 5) L) {hx hm : MH} (hR : RR hx hm) (kk : ∀ hx' hm', RR hx' hm' → LJ l G b L xs 1434 x3 [] hx' hm') : LJ l G b L xs 424 x3 [] hx hm := by
  refine L_aload (pc' := 425) (q := 0) dL_law_424 rfl (by decide) ?_
  refine L_aload (pc' := 426) (q := 2) dL_law_425 rfl (by decide) ?_
  refine L_iload (pc' := 427) dL_law_426 rfl ?_
  refine L_iconst (v := 1) (pc' := 428) dL_law_427 rfl (by decide) ?_
  refine L_iadd (pc' := 429) dL_law_428 rfl ?_
  refine L_sld (pc' := 430) dL_law_429 rfl hi1 rfl ?_
  obtain ⟨r, hx', hm', e1, e2, hR'⟩ := hJ (xs (x3 + 1).toNatClampNeg) hx hm  hR
  refine L_cxI (r, hx') (pc' := 433) (As := [(xs (x3 + 1).toNatClampNeg)]) (rest := []) dL_law_430 rfl mok_X10_depth bm_635 rfl rfl rfl (Nat.le_of_ble_eq_true rfl) (fun _ _ _ => rfl) (by decide) (ct_X10_depth rfl e1) ?_
  refine L_aload (pc' := 434) (q := 1) dL_law_433 rfl (by decide) ?_
  refine L_aload (pc' := 435) (q := 2) dL_law_434 rfl (by decide) ?_
  refine L_iload (pc' := 436) dL_law_435 rfl ?_
  refine L_iconst (v := 1) (pc' := 437) dL_law_436 rfl (by decide) ?_
  refine L_iadd (pc' := 438) dL_law_437 rfl ?_
  refine L_sld (pc' := 439) dL_law_438 rfl hi1 rfl ?_
  refine L_cmI (r, hm') (pc' := 442) (As := [(xs (x3 + 1).toNatClampNeg)]) (rest := [.int r]) dL_law_439 rfl mok_X11_depth bm_1444 rfl rfl rfl (Nat.le_of_ble_eq_true rfl) (fun _ _ _ => rfl) (by decide) (ct_X11_depth rfl e2) ?_
  refine L_eq (tgt := 1434) dL_law_442 (by decide) rfl ?_
  exact kk _ _ hR'
set_option maxRecDepth 100000 in
set_option maxHeartbeats 4000000 in
theorem lc_on {l : Launch} {G : GE} {b L : Nat} {xs : Nat → Int32} {x3 : Int32} {RR : MH → MH → Prop} (hJ : J_on RR) (hi1 : vp_in (x3 + 1) L) (hi2 : vp_in (x3 + 2) L) (hi3 : vp_in (x3 + 3) L) (hi4 : vp_in (x3 + 4) L) (hi5 : vp_in (x3 + 5) L) {hx hm : MH} (hR : RR hx hm) (kk : ∀ hx' hm', RR hx' hm' → LJ l G b L xs 1434 x3 [] hx' hm') : LJ l G b L xs 447 x3 [] hx hm := by
  refine L_aload (pc' := 448) (q := 0) dL_law_447 rfl (by decide) ?_
  refine L_aload (pc' := 449) (q := 2) dL_law_448 rfl (by decide) ?_
  refine L_iload (pc' := 450) dL_law_449 rfl ?_
  refine L_iconst (v := 1) (pc' := 451) dL_law_450 rfl (by decide) ?_
  refine L_iadd (pc' := 452) dL_law_451 rfl ?_
  refine L_sld (pc' := 453) dL_law_452 rfl hi1 rfl ?_
  obtain ⟨r, hx', hm', e1, e2, hR'⟩ := hJ (xs (x3 + 1).toNatClampNeg) hx hm  hR
  refine L_cxI (r, hx') (pc' := 456) (As := [(xs (x3 + 1).toNatClampNeg)]) (rest := []) dL_law_453 rfl mok_X10_on bm_639 rfl rfl rfl (Nat.le_of_ble_eq_true rfl) (fun _ _ _ => rfl) (by decide) (ct_X10_on rfl e1) ?_
  refine L_aload (pc' := 457) (q := 1) dL_law_456 rfl (by decide) ?_
  refine L_aload (pc' := 458) (q := 2) dL_law_457 rfl (by decide) ?_
  refine L_iload (pc' := 459) dL_law_458 rfl ?_
  refine L_iconst (v := 1) (pc' := 460) dL_law_459 rfl (by decide) ?_
  refine L_iadd (pc' := 461) dL_law_460 rfl ?_
  refine L_sld (pc' := 462) dL_law_461 rfl hi1 rfl ?_
  refine L_cmI (r, hm') (pc' := 465) (As := [(xs (x3 + 1).toNatClampNeg)]) (rest := [.int r]) dL_law_462 rfl mok_X11_on bm_1449 rfl rfl rfl (Nat.le_of_ble_eq_true rfl) (fun _ _ _ => rfl) (by decide) (ct_X11_on rfl e2) ?_
  refine L_eq (tgt := 1434) dL_law_465 (by decide) rfl ?_
  exact kk _ _ hR'
set_option maxRecDepth 100000 in
set_option maxHeartbeats 4000000 in
theorem lc_off {l : Launch} {G : GE} {b L : Nat} {xs : Nat → Int32} {x3 : Int32} {RR : MH → MH → Prop} (hJ : J_off RR) (hi1 : vp_in (x3 + 1) L) (hi2 : vp_in (x3 + 2) L) (hi3 : vp_in (x3 + 3) L) (hi4 : vp_in (x3 + 4) L) (hi5 : vp_in (x3 + 5) L) {hx hm : MH} (hR : RR hx hm) (kk : ∀ hx' hm', RR hx' hm' → LJ l G b L xs 1434 x3 [] hx' hm') : LJ l G b L xs 470 x3 [] hx hm := by
  refine L_aload (pc' := 471) (q := 0) dL_law_470 rfl (by decide) ?_
  refine L_aload (pc' := 472) (q := 2) dL_law_471 rfl (by decide) ?_
  refine L_iload (pc' := 473) dL_law_472 rfl ?_
  refine L_iconst (v := 1) (pc' := 474) dL_law_473 rfl (by decide) ?_
  refine L_iadd (pc' := 475) dL_law_474 rfl ?_
  refine L_sld (pc' := 476) dL_law_475 rfl hi1 rfl ?_
  obtain ⟨r, hx', hm', e1, e2, hR'⟩ := hJ (xs (x3 + 1).toNatClampNeg) hx hm  hR
  refine L_cxI (r, hx') (pc' := 479) (As := [(xs (x3 + 1).toNatClampNeg)]) (rest := []) dL_law_476 rfl mok_X10_off bm_659 rfl rfl rfl (Nat.le_of_ble_eq_true rfl) (fun _ _ _ => rfl) (by decide) (ct_X10_off rfl e1) ?_
  refine L_aload (pc' := 480) (q := 1) dL_law_479 rfl (by decide) ?_
  refine L_aload (pc' := 481) (q := 2) dL_law_480 rfl (by decide) ?_
  refine L_iload (pc' := 482) dL_law_481 rfl ?_
  refine L_iconst (v := 1) (pc' := 483) dL_law_482 rfl (by decide) ?_
  refine L_iadd (pc' := 484) dL_law_483 rfl ?_
  refine L_sld (pc' := 485) dL_law_484 rfl hi1 rfl ?_
  refine L_cmI (r, hm') (pc' := 488) (As := [(xs (x3 + 1).toNatClampNeg)]) (rest := [.int r]) dL_law_485 rfl mok_X11_off bm_1469 rfl rfl rfl (Nat.le_of_ble_eq_true rfl) (fun _ _ _ => rfl) (by decide) (ct_X11_off rfl e2) ?_
  refine L_eq (tgt := 1434) dL_law_488 (by decide) rfl ?_
  exact kk _ _ hR'
set_option maxRecDepth 100000 in
set_option maxHeartbeats 4000000 in
theorem lc_label {l : Launch} {G : GE} {b L : Nat} {xs : Nat → Int32} {x3 : Int32} {RR : MH → MH → Prop} (hJ : J_label RR) (hi1 : vp_in (x3 + 1) L) (hi2 : vp_in (x3 + 2) L) (hi3 : vp_in (x3 + 3) L) (hi4 : vp_in (x3 + 4) L) (hi5 : vp_in (x3 + 5) L) {hx hm : MH} (hR : RR hx hm) (kk : ∀ hx' hm', RR hx' hm' → LJ l G b L xs 1434 x3 [] hx' hm') : LJ l G b L xs 493 x3 [] hx hm := by
  refine L_aload (pc' := 494) (q := 0) dL_law_493 rfl (by decide) ?_
  refine L_aload (pc' := 495) (q := 2) dL_law_494 rfl (by decide) ?_
  refine L_iload (pc' := 496) dL_law_495 rfl ?_
  refine L_iconst (v := 1) (pc' := 497) dL_law_496 rfl (by decide) ?_
  refine L_iadd (pc' := 498) dL_law_497 rfl ?_
  refine L_sld (pc' := 499) dL_law_498 rfl hi1 rfl ?_
  obtain ⟨r, hx', hm', e1, e2, hR'⟩ := hJ (xs (x3 + 1).toNatClampNeg) hx hm  hR
  refine L_cxI (r, hx') (pc' := 502) (As := [(xs (x3 + 1).toNatClampNeg)]) (rest := []) dL_law_499 rfl mok_X10_label bm_663 rfl rfl rfl (Nat.le_of_ble_eq_true rfl) (fun _ _ _ => rfl) (by decide) (ct_X10_label rfl e1) ?_
  refine L_aload (pc' := 503) (q := 1) dL_law_502 rfl (by decide) ?_
  refine L_aload (pc' := 504) (q := 2) dL_law_503 rfl (by decide) ?_
  refine L_iload (pc' := 505) dL_law_504 rfl ?_
  refine L_iconst (v := 1) (pc' := 506) dL_law_505 rfl (by decide) ?_
  refine L_iadd (pc' := 507) dL_law_506 rfl ?_
  refine L_sld (pc' := 508) dL_law_507 rfl hi1 rfl ?_
  refine L_cmI (r, hm') (pc' := 511) (As := [(xs (x3 + 1).toNatClampNeg)]) (rest := [.int r]) dL_law_508 rfl mok_X11_label bm_1473 rfl rfl rfl (Nat.le_of_ble_eq_true rfl) (fun _ _ _ => rfl) (by decide) (ct_X11_label rfl e2) ?_
  refine L_eq (tgt := 1434) dL_law_511 (by decide) rfl ?_
  exact kk _ _ hR'
set_option maxRecDepth 100000 in
set_option maxHeartbeats 4000000 in
theorem lc_pop {l : Launch} {G : GE} {b L : Nat} {xs : Nat → Int32} {x3 : Int32} {RR : MH → MH → Prop} (hJ : J_pop RR) (hi1 : vp_in (x3 + 1) L) (hi2 : vp_in (x3 + 2) L) (hi3 : vp_in (x3 + 3) L) (hi4 : vp_in (x3 + 4) L) (hi5 : vp_in (x3 + 5) L) {hx hm : MH} (hR : RR hx hm) (kk : ∀ hx' hm', RR hx' hm' → LJ l G b L xs 1434 x3 [] hx' hm') : LJ l G b L xs 516 x3 [] hx hm := by
  refine L_aload (pc' := 517) (q := 0) dL_law_516 rfl (by decide) ?_
  refine L_aload (pc' := 518) (q := 2) dL_law_517 rfl (by decide) ?_
  refine L_iload (pc' := 519) dL_law_518 rfl ?_
  refine L_iconst (v := 1) (pc' := 520) dL_law_519 rfl (by decide) ?_
  refine L_iadd (pc' := 521) dL_law_520 rfl ?_
  refine L_sld (pc' := 522) dL_law_521 rfl hi1 rfl ?_
  obtain ⟨r, hx', hm', e1, e2, hR'⟩ := hJ (xs (x3 + 1).toNatClampNeg) hx hm  hR
  refine L_cxI (r, hx') (pc' := 525) (As := [(xs (x3 + 1).toNatClampNeg)]) (rest := []) dL_law_522 rfl mok_X10_pop bm_670 rfl rfl rfl (Nat.le_of_ble_eq_true rfl) (fun _ _ _ => rfl) (by decide) (ct_X10_pop rfl e1) ?_
  refine L_aload (pc' := 526) (q := 1) dL_law_525 rfl (by decide) ?_
  refine L_aload (pc' := 527) (q := 2) dL_law_526 rfl (by decide) ?_
  refine L_iload (pc' := 528) dL_law_527 rfl ?_
  refine L_iconst (v := 1) (pc' := 529) dL_law_528 rfl (by decide) ?_
  refine L_iadd (pc' := 530) dL_law_529 rfl ?_
  refine L_sld (pc' := 531) dL_law_530 rfl hi1 rfl ?_
  refine L_cmI (r, hm') (pc' := 534) (As := [(xs (x3 + 1).toNatClampNeg)]) (rest := [.int r]) dL_law_531 rfl mok_X11_pop bm_1486 rfl rfl rfl (Nat.le_of_ble_eq_true rfl) (fun _ _ _ => rfl) (by decide) (ct_X11_pop rfl e2) ?_
  refine L_eq (tgt := 1434) dL_law_534 (by decide) rfl ?_
  exact kk _ _ hR'
set_option maxRecDepth 100000 in
set_option maxHeartbeats 4000000 in
theorem lc_write {l : Launch} {G : GE} {b L : Nat} {xs : Nat → Int32} {x3 : Int32} {RR : MH → MH → Prop} (hJ : J_write RR) (hi1 : vp_in (x3 + 1) L) (hi2 : vp_in (x3 + 2) L) (hi3 : vp_in (x3 + 3) L) (hi4 : vp_in (x3 + 4) L) (hi5 : vp_in (x3 + 5) L) {hx hm : MH} (hR : RR hx hm) (kk : ∀ hx' hm', RR hx' hm' → LJ l G b L xs 1434 x3 [] hx' hm') : LJ l G b L xs 539 x3 [] hx hm := by
  refine L_aload (pc' := 540) (q := 0) dL_law_539 rfl (by decide) ?_
  obtain ⟨r, hx', hm', e1, e2, hR'⟩ := hJ  hx hm  hR
  refine L_cxI (r, hx') (pc' := 543) (As := []) (rest := []) dL_law_540 rfl mok_X10_write bm_678 rfl rfl rfl (Nat.le_of_ble_eq_true rfl) (fun _ _ _ => rfl) (by decide) (ct_X10_write rfl e1) ?_
  refine L_aload (pc' := 544) (q := 1) dL_law_543 rfl (by decide) ?_
  refine L_cmI (r, hm') (pc' := 547) (As := []) (rest := [.int r]) dL_law_544 rfl mok_X11_write bm_1597 rfl rfl rfl (Nat.le_of_ble_eq_true rfl) (fun _ _ _ => rfl) (by decide) (ct_X11_write rfl e2) ?_
  refine L_eq (tgt := 1434) dL_law_547 (by decide) rfl ?_
  exact kk _ _ hR'
set_option maxRecDepth 100000 in
set_option maxHeartbeats 4000000 in
theorem lc_witness {l : Launch} {G : GE} {b L : Nat} {xs : Nat → Int32} {x3 : Int32} {RR : MH → MH → Prop} (hJ : J_witness RR) (hi1 : vp_in (x3 + 1) L) (hi2 : vp_in (x3 + 2) L) (hi3 : vp_in (x3 + 3) L) (hi4 : vp_in (x3 + 4) L) (hi5 : vp_in (x3 + 5) L) {hx hm : MH} (hR : RR hx hm) (kk : ∀ hx' hm', RR hx' hm' → LJ l G b L xs 1434 x3 [] hx' hm') : LJ l G b L xs 552 x3 [] hx hm := by
  refine L_aload (pc' := 553) (q := 0) dL_law_552 rfl (by decide) ?_
  obtain ⟨r, hx', hm', e1, e2, hR'⟩ := hJ  hx hm  hR
  refine L_cxI (r, hx') (pc' := 556) (As := []) (rest := []) dL_law_553 rfl mok_X10_witness bm_771 rfl rfl rfl (Nat.le_of_ble_eq_true rfl) (fun _ _ _ => rfl) (by decide) (ct_X10_witness rfl e1) ?_
  refine L_aload (pc' := 557) (q := 1) dL_law_556 rfl (by decide) ?_
  refine L_cmI (r, hm') (pc' := 560) (As := []) (rest := [.int r]) dL_law_557 rfl mok_X11_witness bm_1633 rfl rfl rfl (Nat.le_of_ble_eq_true rfl) (fun _ _ _ => rfl) (by decide) (ct_X11_witness rfl e2) ?_
  refine L_eq (tgt := 1434) dL_law_560 (by decide) rfl ?_
  exact kk _ _ hR'
set_option maxRecDepth 100000 in
set_option maxHeartbeats 4000000 in
theorem lc_greedy {l : Launch} {G : GE} {b L : Nat} {xs : Nat → Int32} {x3 : Int32} {RR : MH → MH → Prop} (hJ : J_greedy RR) (hi1 : vp_in (x3 + 1) L) (hi2 : vp_in (x3 + 2) L) (hi3 : vp_in (x3 + 3) L) (hi4 : vp_in (x3 + 4) L) (hi5 : vp_in (x3 + 5) L) {hx hm : MH} (hR : RR hx hm) (kk : ∀ hx' hm', RR hx' hm' → LJ l G b L xs 1434 x3 [] hx' hm') : LJ l G b L xs 565 x3 [] hx hm := by
  refine L_aload (pc' := 566) (q := 0) dL_law_565 rfl (by decide) ?_
  obtain ⟨r, hx', hm', e1, e2, hR'⟩ := hJ  hx hm  hR
  refine L_cxI (r, hx') (pc' := 569) (As := []) (rest := []) dL_law_566 rfl mok_X10_greedy bm_779 rfl rfl rfl (Nat.le_of_ble_eq_true rfl) (fun _ _ _ => rfl) (by decide) (ct_X10_greedy rfl e1) ?_
  refine L_aload (pc' := 570) (q := 1) dL_law_569 rfl (by decide) ?_
  refine L_cmI (r, hm') (pc' := 573) (As := []) (rest := [.int r]) dL_law_570 rfl mok_X11_greedy bm_1637 rfl rfl rfl (Nat.le_of_ble_eq_true rfl) (fun _ _ _ => rfl) (by decide) (ct_X11_greedy rfl e2) ?_
  refine L_eq (tgt := 1434) dL_law_573 (by decide) rfl ?_
  exact kk _ _ hR'
set_option maxRecDepth 100000 in
set_option maxHeartbeats 4000000 in
theorem lc_covers {l : Launch} {G : GE} {b L : Nat} {xs : Nat → Int32} {x3 : Int32} {RR : MH → MH → Prop} (hJ : J_covers RR) (hi1 : vp_in (x3 + 1) L) (hi2 : vp_in (x3 + 2) L) (hi3 : vp_in (x3 + 3) L) (hi4 : vp_in (x3 + 4) L) (hi5 : vp_in (x3 + 5) L) {hx hm : MH} (hR : RR hx hm) (kk : ∀ hx' hm', RR hx' hm' → LJ l G b L xs 1434 x3 [] hx' hm') : LJ l G b L xs 578 x3 [] hx hm := by
  refine L_aload (pc' := 579) (q := 0) dL_law_578 rfl (by decide) ?_
  refine L_aload (pc' := 580) (q := 2) dL_law_579 rfl (by decide) ?_
  refine L_iload (pc' := 581) dL_law_580 rfl ?_
  refine L_iconst (v := 1) (pc' := 582) dL_law_581 rfl (by decide) ?_
  refine L_iadd (pc' := 583) dL_law_582 rfl ?_
  refine L_sld (pc' := 584) dL_law_583 rfl hi1 rfl ?_
  obtain ⟨r, hx', hm', e1, e2, hR'⟩ := hJ (xs (x3 + 1).toNatClampNeg) hx hm  hR
  refine L_cxI (r, hx') (pc' := 587) (As := [(xs (x3 + 1).toNatClampNeg)]) (rest := []) dL_law_584 rfl mok_X10_covers bm_788 rfl rfl rfl (Nat.le_of_ble_eq_true rfl) (fun _ _ _ => rfl) (by decide) (ct_X10_covers rfl e1) ?_
  refine L_aload (pc' := 588) (q := 1) dL_law_587 rfl (by decide) ?_
  refine L_aload (pc' := 589) (q := 2) dL_law_588 rfl (by decide) ?_
  refine L_iload (pc' := 590) dL_law_589 rfl ?_
  refine L_iconst (v := 1) (pc' := 591) dL_law_590 rfl (by decide) ?_
  refine L_iadd (pc' := 592) dL_law_591 rfl ?_
  refine L_sld (pc' := 593) dL_law_592 rfl hi1 rfl ?_
  refine L_cmI (r, hm') (pc' := 596) (As := [(xs (x3 + 1).toNatClampNeg)]) (rest := [.int r]) dL_law_593 rfl mok_X11_covers bm_1646 rfl rfl rfl (Nat.le_of_ble_eq_true rfl) (fun _ _ _ => rfl) (by decide) (ct_X11_covers rfl e2) ?_
  refine L_eq (tgt := 1434) dL_law_596 (by decide) rfl ?_
  exact kk _ _ hR'
set_option maxRecDepth 100000 in
set_option maxHeartbeats 4000000 in
theorem lc_far {l : Launch} {G : GE} {b L : Nat} {xs : Nat → Int32} {x3 : Int32} {RR : MH → MH → Prop} (hJ : J_far RR) (hi1 : vp_in (x3 + 1) L) (hi2 : vp_in (x3 + 2) L) (hi3 : vp_in (x3 + 3) L) (hi4 : vp_in (x3 + 4) L) (hi5 : vp_in (x3 + 5) L) {hx hm : MH} (hR : RR hx hm) (kk : ∀ hx' hm', RR hx' hm' → LJ l G b L xs 1434 x3 [] hx' hm') : LJ l G b L xs 601 x3 [] hx hm := by
  refine L_aload (pc' := 602) (q := 0) dL_law_601 rfl (by decide) ?_
  refine L_aload (pc' := 603) (q := 2) dL_law_602 rfl (by decide) ?_
  refine L_iload (pc' := 604) dL_law_603 rfl ?_
  refine L_iconst (v := 1) (pc' := 605) dL_law_604 rfl (by decide) ?_
  refine L_iadd (pc' := 606) dL_law_605 rfl ?_
  refine L_sld (pc' := 607) dL_law_606 rfl hi1 rfl ?_
  refine L_aload (pc' := 608) (q := 2) dL_law_607 rfl (by decide) ?_
  refine L_iload (pc' := 609) dL_law_608 rfl ?_
  refine L_iconst (v := 2) (pc' := 610) dL_law_609 rfl (by decide) ?_
  refine L_iadd (pc' := 611) dL_law_610 rfl ?_
  refine L_sld (pc' := 612) dL_law_611 rfl hi2 rfl ?_
  obtain ⟨r, hx', hm', e1, e2, hR'⟩ := hJ (xs (x3 + 1).toNatClampNeg) (xs (x3 + 2).toNatClampNeg) hx hm  hR
  refine L_cxI (r, hx') (pc' := 615) (As := [(xs (x3 + 1).toNatClampNeg), (xs (x3 + 2).toNatClampNeg)]) (rest := []) dL_law_612 rfl mok_X10_far bm_793 rfl rfl rfl (Nat.le_of_ble_eq_true rfl) (fun _ _ _ => rfl) (by decide) (ct_X10_far rfl e1) ?_
  refine L_aload (pc' := 616) (q := 1) dL_law_615 rfl (by decide) ?_
  refine L_aload (pc' := 617) (q := 2) dL_law_616 rfl (by decide) ?_
  refine L_iload (pc' := 618) dL_law_617 rfl ?_
  refine L_iconst (v := 1) (pc' := 619) dL_law_618 rfl (by decide) ?_
  refine L_iadd (pc' := 620) dL_law_619 rfl ?_
  refine L_sld (pc' := 621) dL_law_620 rfl hi1 rfl ?_
  refine L_aload (pc' := 622) (q := 2) dL_law_621 rfl (by decide) ?_
  refine L_iload (pc' := 623) dL_law_622 rfl ?_
  refine L_iconst (v := 2) (pc' := 624) dL_law_623 rfl (by decide) ?_
  refine L_iadd (pc' := 625) dL_law_624 rfl ?_
  refine L_sld (pc' := 626) dL_law_625 rfl hi2 rfl ?_
  refine L_cmI (r, hm') (pc' := 629) (As := [(xs (x3 + 1).toNatClampNeg), (xs (x3 + 2).toNatClampNeg)]) (rest := [.int r]) dL_law_626 rfl mok_X11_far bm_1490 rfl rfl rfl (Nat.le_of_ble_eq_true rfl) (fun _ _ _ => rfl) (by decide) (ct_X11_far rfl e2) ?_
  refine L_eq (tgt := 1434) dL_law_629 (by decide) rfl ?_
  exact kk _ _ hR'
set_option maxRecDepth 100000 in
set_option maxHeartbeats 4000000 in
theorem lc_paths {l : Launch} {G : GE} {b L : Nat} {xs : Nat → Int32} {x3 : Int32} {RR : MH → MH → Prop} (hJ : J_paths RR) (hi1 : vp_in (x3 + 1) L) (hi2 : vp_in (x3 + 2) L) (hi3 : vp_in (x3 + 3) L) (hi4 : vp_in (x3 + 4) L) (hi5 : vp_in (x3 + 5) L) {hx hm : MH} (hR : RR hx hm) (kk : ∀ hx' hm', RR hx' hm' → LJ l G b L xs 1434 x3 [] hx' hm') : LJ l G b L xs 634 x3 [] hx hm := by
  refine L_aload (pc' := 635) (q := 0) dL_law_634 rfl (by decide) ?_
  refine L_aload (pc' := 636) (q := 2) dL_law_635 rfl (by decide) ?_
  refine L_iload (pc' := 637) dL_law_636 rfl ?_
  refine L_iconst (v := 1) (pc' := 638) dL_law_637 rfl (by decide) ?_
  refine L_iadd (pc' := 639) dL_law_638 rfl ?_
  refine L_sld (pc' := 640) dL_law_639 rfl hi1 rfl ?_
  refine L_aload (pc' := 641) (q := 2) dL_law_640 rfl (by decide) ?_
  refine L_iload (pc' := 642) dL_law_641 rfl ?_
  refine L_iconst (v := 2) (pc' := 643) dL_law_642 rfl (by decide) ?_
  refine L_iadd (pc' := 644) dL_law_643 rfl ?_
  refine L_sld (pc' := 645) dL_law_644 rfl hi2 rfl ?_
  obtain ⟨r, hx', hm', e1, e2, hR'⟩ := hJ (xs (x3 + 1).toNatClampNeg) (xs (x3 + 2).toNatClampNeg) hx hm  hR
  refine L_cxL (r, hx') (pc' := 648) (As := [(xs (x3 + 1).toNatClampNeg), (xs (x3 + 2).toNatClampNeg)]) (rest := []) dL_law_645 rfl mok_X10_paths bm_799 rfl rfl rfl (Nat.le_of_ble_eq_true rfl) (fun _ _ _ => rfl) (by decide) (ct_X10_paths rfl e1) ?_
  refine L_aload (pc' := 649) (q := 1) dL_law_648 rfl (by decide) ?_
  refine L_aload (pc' := 650) (q := 2) dL_law_649 rfl (by decide) ?_
  refine L_iload (pc' := 651) dL_law_650 rfl ?_
  refine L_iconst (v := 1) (pc' := 652) dL_law_651 rfl (by decide) ?_
  refine L_iadd (pc' := 653) dL_law_652 rfl ?_
  refine L_sld (pc' := 654) dL_law_653 rfl hi1 rfl ?_
  refine L_aload (pc' := 655) (q := 2) dL_law_654 rfl (by decide) ?_
  refine L_iload (pc' := 656) dL_law_655 rfl ?_
  refine L_iconst (v := 2) (pc' := 657) dL_law_656 rfl (by decide) ?_
  refine L_iadd (pc' := 658) dL_law_657 rfl ?_
  refine L_sld (pc' := 659) dL_law_658 rfl hi2 rfl ?_
  refine L_cmL (r, hm') (pc' := 662) (As := [(xs (x3 + 1).toNatClampNeg), (xs (x3 + 2).toNatClampNeg)]) (rest := [.long r]) dL_law_659 rfl mok_X11_paths bm_1511 rfl rfl rfl (Nat.le_of_ble_eq_true rfl) (fun _ _ _ => rfl) (by decide) (ct_X11_paths rfl e2) ?_
  refine L_lcmp (pc' := 663) dL_law_662 rfl ?_
  refine L_eq0 (tgt := 1434) (pc' := 666) dL_law_663 (by decide) rfl (fun _ => ?_) (fun q => absurd ((zq_eq _ _).mpr rfl) q)
  exact kk _ _ hR'
set_option maxRecDepth 100000 in
set_option maxHeartbeats 4000000 in
theorem lc_next {l : Launch} {G : GE} {b L : Nat} {xs : Nat → Int32} {x3 : Int32} {RR : MH → MH → Prop} (hJ : J_next RR) (hi1 : vp_in (x3 + 1) L) (hi2 : vp_in (x3 + 2) L) (hi3 : vp_in (x3 + 3) L) (hi4 : vp_in (x3 + 4) L) (hi5 : vp_in (x3 + 5) L) {hx hm : MH} (hR : RR hx hm) (kk : ∀ hx' hm', RR hx' hm' → LJ l G b L xs 1434 x3 [] hx' hm') : LJ l G b L xs 668 x3 [] hx hm := by
  refine L_aload (pc' := 669) (q := 0) dL_law_668 rfl (by decide) ?_
  refine L_aload (pc' := 670) (q := 2) dL_law_669 rfl (by decide) ?_
  refine L_iload (pc' := 671) dL_law_670 rfl ?_
  refine L_iconst (v := 1) (pc' := 672) dL_law_671 rfl (by decide) ?_
  refine L_iadd (pc' := 673) dL_law_672 rfl ?_
  refine L_sld (pc' := 674) dL_law_673 rfl hi1 rfl ?_
  refine L_aload (pc' := 675) (q := 2) dL_law_674 rfl (by decide) ?_
  refine L_iload (pc' := 676) dL_law_675 rfl ?_
  refine L_iconst (v := 2) (pc' := 677) dL_law_676 rfl (by decide) ?_
  refine L_iadd (pc' := 678) dL_law_677 rfl ?_
  refine L_sld (pc' := 679) dL_law_678 rfl hi2 rfl ?_
  obtain ⟨r, hx', hm', e1, e2, hR'⟩ := hJ (xs (x3 + 1).toNatClampNeg) (xs (x3 + 2).toNatClampNeg) hx hm  hR
  refine L_cxI (r, hx') (pc' := 682) (As := [(xs (x3 + 1).toNatClampNeg), (xs (x3 + 2).toNatClampNeg)]) (rest := []) dL_law_679 rfl mok_X10_next bm_805 rfl rfl rfl (Nat.le_of_ble_eq_true rfl) (fun _ _ _ => rfl) (by decide) (ct_X10_next rfl e1) ?_
  refine L_aload (pc' := 683) (q := 1) dL_law_682 rfl (by decide) ?_
  refine L_aload (pc' := 684) (q := 2) dL_law_683 rfl (by decide) ?_
  refine L_iload (pc' := 685) dL_law_684 rfl ?_
  refine L_iconst (v := 1) (pc' := 686) dL_law_685 rfl (by decide) ?_
  refine L_iadd (pc' := 687) dL_law_686 rfl ?_
  refine L_sld (pc' := 688) dL_law_687 rfl hi1 rfl ?_
  refine L_aload (pc' := 689) (q := 2) dL_law_688 rfl (by decide) ?_
  refine L_iload (pc' := 690) dL_law_689 rfl ?_
  refine L_iconst (v := 2) (pc' := 691) dL_law_690 rfl (by decide) ?_
  refine L_iadd (pc' := 692) dL_law_691 rfl ?_
  refine L_sld (pc' := 693) dL_law_692 rfl hi2 rfl ?_
  refine L_cmI (r, hm') (pc' := 696) (As := [(xs (x3 + 1).toNatClampNeg), (xs (x3 + 2).toNatClampNeg)]) (rest := [.int r]) dL_law_693 rfl mok_X11_next bm_1516 rfl rfl rfl (Nat.le_of_ble_eq_true rfl) (fun _ _ _ => rfl) (by decide) (ct_X11_next rfl e2) ?_
  refine L_eq (tgt := 1434) dL_law_696 (by decide) rfl ?_
  exact kk _ _ hR'
set_option maxRecDepth 100000 in
set_option maxHeartbeats 4000000 in
theorem lc_ends {l : Launch} {G : GE} {b L : Nat} {xs : Nat → Int32} {x3 : Int32} {RR : MH → MH → Prop} (hJ : J_ends RR) (hi1 : vp_in (x3 + 1) L) (hi2 : vp_in (x3 + 2) L) (hi3 : vp_in (x3 + 3) L) (hi4 : vp_in (x3 + 4) L) (hi5 : vp_in (x3 + 5) L) {hx hm : MH} (hR : RR hx hm) (kk : ∀ hx' hm', RR hx' hm' → LJ l G b L xs 1434 x3 [] hx' hm') : LJ l G b L xs 701 x3 [] hx hm := by
  refine L_aload (pc' := 702) (q := 0) dL_law_701 rfl (by decide) ?_
  refine L_aload (pc' := 703) (q := 2) dL_law_702 rfl (by decide) ?_
  refine L_iload (pc' := 704) dL_law_703 rfl ?_
  refine L_iconst (v := 1) (pc' := 705) dL_law_704 rfl (by decide) ?_
  refine L_iadd (pc' := 706) dL_law_705 rfl ?_
  refine L_sld (pc' := 707) dL_law_706 rfl hi1 rfl ?_
  obtain ⟨r, hx', hm', e1, e2, hR'⟩ := hJ (xs (x3 + 1).toNatClampNeg) hx hm  hR
  refine L_cxI (r, hx') (pc' := 710) (As := [(xs (x3 + 1).toNatClampNeg)]) (rest := []) dL_law_707 rfl mok_X10_ends bm_814 rfl rfl rfl (Nat.le_of_ble_eq_true rfl) (fun _ _ _ => rfl) (by decide) (ct_X10_ends rfl e1) ?_
  refine L_aload (pc' := 711) (q := 1) dL_law_710 rfl (by decide) ?_
  refine L_aload (pc' := 712) (q := 2) dL_law_711 rfl (by decide) ?_
  refine L_iload (pc' := 713) dL_law_712 rfl ?_
  refine L_iconst (v := 1) (pc' := 714) dL_law_713 rfl (by decide) ?_
  refine L_iadd (pc' := 715) dL_law_714 rfl ?_
  refine L_sld (pc' := 716) dL_law_715 rfl hi1 rfl ?_
  refine L_cmI (r, hm') (pc' := 719) (As := [(xs (x3 + 1).toNatClampNeg)]) (rest := [.int r]) dL_law_716 rfl mok_X11_ends bm_1520 rfl rfl rfl (Nat.le_of_ble_eq_true rfl) (fun _ _ _ => rfl) (by decide) (ct_X11_ends rfl e2) ?_
  refine L_eq (tgt := 1434) dL_law_719 (by decide) rfl ?_
  exact kk _ _ hR'
set_option maxRecDepth 100000 in
set_option maxHeartbeats 4000000 in
theorem lc_exact {l : Launch} {G : GE} {b L : Nat} {xs : Nat → Int32} {x3 : Int32} {RR : MH → MH → Prop} (hJ : J_exact RR) (hi1 : vp_in (x3 + 1) L) (hi2 : vp_in (x3 + 2) L) (hi3 : vp_in (x3 + 3) L) (hi4 : vp_in (x3 + 4) L) (hi5 : vp_in (x3 + 5) L) {hx hm : MH} (hR : RR hx hm) (kk : ∀ hx' hm', RR hx' hm' → LJ l G b L xs 1434 x3 [] hx' hm') : LJ l G b L xs 724 x3 [] hx hm := by
  refine L_aload (pc' := 725) (q := 0) dL_law_724 rfl (by decide) ?_
  refine L_aload (pc' := 726) (q := 2) dL_law_725 rfl (by decide) ?_
  refine L_iload (pc' := 727) dL_law_726 rfl ?_
  refine L_iconst (v := 1) (pc' := 728) dL_law_727 rfl (by decide) ?_
  refine L_iadd (pc' := 729) dL_law_728 rfl ?_
  refine L_sld (pc' := 730) dL_law_729 rfl hi1 rfl ?_
  obtain ⟨r, hx', hm', e1, e2, hR'⟩ := hJ (xs (x3 + 1).toNatClampNeg) hx hm  hR
  refine L_cxI (r, hx') (pc' := 733) (As := [(xs (x3 + 1).toNatClampNeg)]) (rest := []) dL_law_730 rfl mok_X10_exact bm_905 rfl rfl rfl (Nat.le_of_ble_eq_true rfl) (fun _ _ _ => rfl) (by decide) (ct_X10_exact rfl e1) ?_
  refine L_aload (pc' := 734) (q := 1) dL_law_733 rfl (by decide) ?_
  refine L_aload (pc' := 735) (q := 2) dL_law_734 rfl (by decide) ?_
  refine L_iload (pc' := 736) dL_law_735 rfl ?_
  refine L_iconst (v := 1) (pc' := 737) dL_law_736 rfl (by decide) ?_
  refine L_iadd (pc' := 738) dL_law_737 rfl ?_
  refine L_sld (pc' := 739) dL_law_738 rfl hi1 rfl ?_
  refine L_cmI (r, hm') (pc' := 742) (As := [(xs (x3 + 1).toNatClampNeg)]) (rest := [.int r]) dL_law_739 rfl mok_X11_exact bm_1580 rfl rfl rfl (Nat.le_of_ble_eq_true rfl) (fun _ _ _ => rfl) (by decide) (ct_X11_exact rfl e2) ?_
  refine L_eq (tgt := 1434) dL_law_742 (by decide) rfl ?_
  exact kk _ _ hR'
set_option maxRecDepth 100000 in
set_option maxHeartbeats 4000000 in
theorem lc_high {l : Launch} {G : GE} {b L : Nat} {xs : Nat → Int32} {x3 : Int32} {RR : MH → MH → Prop} (hJ : J_high RR) (hi1 : vp_in (x3 + 1) L) (hi2 : vp_in (x3 + 2) L) (hi3 : vp_in (x3 + 3) L) (hi4 : vp_in (x3 + 4) L) (hi5 : vp_in (x3 + 5) L) {hx hm : MH} (hR : RR hx hm) (kk : ∀ hx' hm', RR hx' hm' → LJ l G b L xs 1434 x3 [] hx' hm') : LJ l G b L xs 747 x3 [] hx hm := by
  refine L_aload (pc' := 748) (q := 0) dL_law_747 rfl (by decide) ?_
  refine L_aload (pc' := 749) (q := 2) dL_law_748 rfl (by decide) ?_
  refine L_iload (pc' := 750) dL_law_749 rfl ?_
  refine L_iconst (v := 1) (pc' := 751) dL_law_750 rfl (by decide) ?_
  refine L_iadd (pc' := 752) dL_law_751 rfl ?_
  refine L_sld (pc' := 753) dL_law_752 rfl hi1 rfl ?_
  obtain ⟨r, hx', hm', e1, e2, hR'⟩ := hJ (xs (x3 + 1).toNatClampNeg) hx hm  hR
  refine L_cxI (r, hx') (pc' := 756) (As := [(xs (x3 + 1).toNatClampNeg)]) (rest := []) dL_law_753 rfl mok_X10_high bm_909 rfl rfl rfl (Nat.le_of_ble_eq_true rfl) (fun _ _ _ => rfl) (by decide) (ct_X10_high rfl e1) ?_
  refine L_aload (pc' := 757) (q := 1) dL_law_756 rfl (by decide) ?_
  refine L_aload (pc' := 758) (q := 2) dL_law_757 rfl (by decide) ?_
  refine L_iload (pc' := 759) dL_law_758 rfl ?_
  refine L_iconst (v := 1) (pc' := 760) dL_law_759 rfl (by decide) ?_
  refine L_iadd (pc' := 761) dL_law_760 rfl ?_
  refine L_sld (pc' := 762) dL_law_761 rfl hi1 rfl ?_
  refine L_cmI (r, hm') (pc' := 765) (As := [(xs (x3 + 1).toNatClampNeg)]) (rest := [.int r]) dL_law_762 rfl mok_X11_high bm_1584 rfl rfl rfl (Nat.le_of_ble_eq_true rfl) (fun _ _ _ => rfl) (by decide) (ct_X11_high rfl e2) ?_
  refine L_eq (tgt := 1434) dL_law_765 (by decide) rfl ?_
  exact kk _ _ hR'
set_option maxRecDepth 100000 in
set_option maxHeartbeats 4000000 in
theorem lc_course {l : Launch} {G : GE} {b L : Nat} {xs : Nat → Int32} {x3 : Int32} {RR : MH → MH → Prop} (hJ : J_course RR) (hi1 : vp_in (x3 + 1) L) (hi2 : vp_in (x3 + 2) L) (hi3 : vp_in (x3 + 3) L) (hi4 : vp_in (x3 + 4) L) (hi5 : vp_in (x3 + 5) L) {hx hm : MH} (hR : RR hx hm) (kk : ∀ hx' hm', RR hx' hm' → LJ l G b L xs 1434 x3 [] hx' hm') : LJ l G b L xs 770 x3 [] hx hm := by
  refine L_aload (pc' := 771) (q := 0) dL_law_770 rfl (by decide) ?_
  refine L_aload (pc' := 772) (q := 2) dL_law_771 rfl (by decide) ?_
  refine L_iload (pc' := 773) dL_law_772 rfl ?_
  refine L_iconst (v := 1) (pc' := 774) dL_law_773 rfl (by decide) ?_
  refine L_iadd (pc' := 775) dL_law_774 rfl ?_
  refine L_sld (pc' := 776) dL_law_775 rfl hi1 rfl ?_
  obtain ⟨r, hx', hm', e1, e2, hR'⟩ := hJ (xs (x3 + 1).toNatClampNeg) hx hm  hR
  refine L_cxI (r, hx') (pc' := 779) (As := [(xs (x3 + 1).toNatClampNeg)]) (rest := []) dL_law_776 rfl mok_X10_course bm_913 rfl rfl rfl (Nat.le_of_ble_eq_true rfl) (fun _ _ _ => rfl) (by decide) (ct_X10_course rfl e1) ?_
  refine L_aload (pc' := 780) (q := 1) dL_law_779 rfl (by decide) ?_
  refine L_aload (pc' := 781) (q := 2) dL_law_780 rfl (by decide) ?_
  refine L_iload (pc' := 782) dL_law_781 rfl ?_
  refine L_iconst (v := 1) (pc' := 783) dL_law_782 rfl (by decide) ?_
  refine L_iadd (pc' := 784) dL_law_783 rfl ?_
  refine L_sld (pc' := 785) dL_law_784 rfl hi1 rfl ?_
  refine L_cmI (r, hm') (pc' := 788) (As := [(xs (x3 + 1).toNatClampNeg)]) (rest := [.int r]) dL_law_785 rfl mok_X11_course bm_1588 rfl rfl rfl (Nat.le_of_ble_eq_true rfl) (fun _ _ _ => rfl) (by decide) (ct_X11_course rfl e2) ?_
  refine L_eq (tgt := 1434) dL_law_788 (by decide) rfl ?_
  exact kk _ _ hR'
set_option maxRecDepth 100000 in
set_option maxHeartbeats 4000000 in
theorem lc_share {l : Launch} {G : GE} {b L : Nat} {xs : Nat → Int32} {x3 : Int32} {RR : MH → MH → Prop} (hJ : J_share RR) (hi1 : vp_in (x3 + 1) L) (hi2 : vp_in (x3 + 2) L) (hi3 : vp_in (x3 + 3) L) (hi4 : vp_in (x3 + 4) L) (hi5 : vp_in (x3 + 5) L) {hx hm : MH} (hR : RR hx hm) (kk : ∀ hx' hm', RR hx' hm' → LJ l G b L xs 1434 x3 [] hx' hm') : LJ l G b L xs 793 x3 [] hx hm := by
  refine L_aload (pc' := 794) (q := 0) dL_law_793 rfl (by decide) ?_
  refine L_aload (pc' := 795) (q := 2) dL_law_794 rfl (by decide) ?_
  refine L_iload (pc' := 796) dL_law_795 rfl ?_
  refine L_iconst (v := 1) (pc' := 797) dL_law_796 rfl (by decide) ?_
  refine L_iadd (pc' := 798) dL_law_797 rfl ?_
  refine L_sld (pc' := 799) dL_law_798 rfl hi1 rfl ?_
  refine L_aload (pc' := 800) (q := 2) dL_law_799 rfl (by decide) ?_
  refine L_iload (pc' := 801) dL_law_800 rfl ?_
  refine L_iconst (v := 2) (pc' := 802) dL_law_801 rfl (by decide) ?_
  refine L_iadd (pc' := 803) dL_law_802 rfl ?_
  refine L_sld (pc' := 804) dL_law_803 rfl hi2 rfl ?_
  refine L_aload (pc' := 805) (q := 2) dL_law_804 rfl (by decide) ?_
  refine L_iload (pc' := 806) dL_law_805 rfl ?_
  refine L_iconst (v := 3) (pc' := 807) dL_law_806 rfl (by decide) ?_
  refine L_iadd (pc' := 808) dL_law_807 rfl ?_
  refine L_sld (pc' := 809) dL_law_808 rfl hi3 rfl ?_
  obtain ⟨r, hx', hm', e1, e2, hR'⟩ := hJ (xs (x3 + 1).toNatClampNeg) (xs (x3 + 2).toNatClampNeg) (xs (x3 + 3).toNatClampNeg) hx hm  hR
  refine L_cxL (r, hx') (pc' := 812) (As := [(xs (x3 + 1).toNatClampNeg), (xs (x3 + 2).toNatClampNeg), (xs (x3 + 3).toNatClampNeg)]) (rest := []) dL_law_809 rfl mok_X10_share bm_917 rfl rfl rfl (Nat.le_of_ble_eq_true rfl) (fun _ _ _ => rfl) (by decide) (ct_X10_share rfl e1) ?_
  refine L_aload (pc' := 813) (q := 1) dL_law_812 rfl (by decide) ?_
  refine L_aload (pc' := 814) (q := 2) dL_law_813 rfl (by decide) ?_
  refine L_iload (pc' := 815) dL_law_814 rfl ?_
  refine L_iconst (v := 1) (pc' := 816) dL_law_815 rfl (by decide) ?_
  refine L_iadd (pc' := 817) dL_law_816 rfl ?_
  refine L_sld (pc' := 818) dL_law_817 rfl hi1 rfl ?_
  refine L_aload (pc' := 819) (q := 2) dL_law_818 rfl (by decide) ?_
  refine L_iload (pc' := 820) dL_law_819 rfl ?_
  refine L_iconst (v := 2) (pc' := 821) dL_law_820 rfl (by decide) ?_
  refine L_iadd (pc' := 822) dL_law_821 rfl ?_
  refine L_sld (pc' := 823) dL_law_822 rfl hi2 rfl ?_
  refine L_aload (pc' := 824) (q := 2) dL_law_823 rfl (by decide) ?_
  refine L_iload (pc' := 825) dL_law_824 rfl ?_
  refine L_iconst (v := 3) (pc' := 826) dL_law_825 rfl (by decide) ?_
  refine L_iadd (pc' := 827) dL_law_826 rfl ?_
  refine L_sld (pc' := 828) dL_law_827 rfl hi3 rfl ?_
  refine L_cmL (r, hm') (pc' := 831) (As := [(xs (x3 + 1).toNatClampNeg), (xs (x3 + 2).toNatClampNeg), (xs (x3 + 3).toNatClampNeg)]) (rest := [.long r]) dL_law_828 rfl mok_X11_share bm_1593 rfl rfl rfl (Nat.le_of_ble_eq_true rfl) (fun _ _ _ => rfl) (by decide) (ct_X11_share rfl e2) ?_
  refine L_lcmp (pc' := 832) dL_law_831 rfl ?_
  refine L_eq0 (tgt := 1434) (pc' := 835) dL_law_832 (by decide) rfl (fun _ => ?_) (fun q => absurd ((zq_eq _ _).mpr rfl) q)
  exact kk _ _ hR'
set_option maxRecDepth 100000 in
set_option maxHeartbeats 4000000 in
theorem lc_demand {l : Launch} {G : GE} {b L : Nat} {xs : Nat → Int32} {x3 : Int32} {RR : MH → MH → Prop} (hJ : J_demand RR) (hi1 : vp_in (x3 + 1) L) (hi2 : vp_in (x3 + 2) L) (hi3 : vp_in (x3 + 3) L) (hi4 : vp_in (x3 + 4) L) (hi5 : vp_in (x3 + 5) L) {hx hm : MH} (hR : RR hx hm) (kk : ∀ hx' hm', RR hx' hm' → LJ l G b L xs 1434 x3 [] hx' hm') : LJ l G b L xs 837 x3 [] hx hm := by
  refine L_aload (pc' := 838) (q := 0) dL_law_837 rfl (by decide) ?_
  refine L_aload (pc' := 839) (q := 2) dL_law_838 rfl (by decide) ?_
  refine L_iload (pc' := 840) dL_law_839 rfl ?_
  refine L_iconst (v := 1) (pc' := 841) dL_law_840 rfl (by decide) ?_
  refine L_iadd (pc' := 842) dL_law_841 rfl ?_
  refine L_sld (pc' := 843) dL_law_842 rfl hi1 rfl ?_
  refine L_aload (pc' := 844) (q := 2) dL_law_843 rfl (by decide) ?_
  refine L_iload (pc' := 845) dL_law_844 rfl ?_
  refine L_iconst (v := 2) (pc' := 846) dL_law_845 rfl (by decide) ?_
  refine L_iadd (pc' := 847) dL_law_846 rfl ?_
  refine L_sld (pc' := 848) dL_law_847 rfl hi2 rfl ?_
  refine L_aload (pc' := 849) (q := 2) dL_law_848 rfl (by decide) ?_
  refine L_iload (pc' := 850) dL_law_849 rfl ?_
  refine L_iconst (v := 3) (pc' := 851) dL_law_850 rfl (by decide) ?_
  refine L_iadd (pc' := 852) dL_law_851 rfl ?_
  refine L_sld (pc' := 853) dL_law_852 rfl hi3 rfl ?_
  obtain ⟨r, hx', hm', e1, e2, hR'⟩ := hJ (xs (x3 + 1).toNatClampNeg) (xs (x3 + 2).toNatClampNeg) (xs (x3 + 3).toNatClampNeg) hx hm  hR
  refine L_cxI (r, hx') (pc' := 856) (As := [(xs (x3 + 1).toNatClampNeg), (xs (x3 + 2).toNatClampNeg), (xs (x3 + 3).toNatClampNeg)]) (rest := []) dL_law_853 rfl mok_X10_demand bm_926 rfl rfl rfl (Nat.le_of_ble_eq_true rfl) (fun _ _ _ => rfl) (by decide) (ct_X10_demand rfl e1) ?_
  refine L_aload (pc' := 857) (q := 1) dL_law_856 rfl (by decide) ?_
  refine L_aload (pc' := 858) (q := 2) dL_law_857 rfl (by decide) ?_
  refine L_iload (pc' := 859) dL_law_858 rfl ?_
  refine L_iconst (v := 1) (pc' := 860) dL_law_859 rfl (by decide) ?_
  refine L_iadd (pc' := 861) dL_law_860 rfl ?_
  refine L_sld (pc' := 862) dL_law_861 rfl hi1 rfl ?_
  refine L_aload (pc' := 863) (q := 2) dL_law_862 rfl (by decide) ?_
  refine L_iload (pc' := 864) dL_law_863 rfl ?_
  refine L_iconst (v := 2) (pc' := 865) dL_law_864 rfl (by decide) ?_
  refine L_iadd (pc' := 866) dL_law_865 rfl ?_
  refine L_sld (pc' := 867) dL_law_866 rfl hi2 rfl ?_
  refine L_aload (pc' := 868) (q := 2) dL_law_867 rfl (by decide) ?_
  refine L_iload (pc' := 869) dL_law_868 rfl ?_
  refine L_iconst (v := 3) (pc' := 870) dL_law_869 rfl (by decide) ?_
  refine L_iadd (pc' := 871) dL_law_870 rfl ?_
  refine L_sld (pc' := 872) dL_law_871 rfl hi3 rfl ?_
  refine L_cmI (r, hm') (pc' := 875) (As := [(xs (x3 + 1).toNatClampNeg), (xs (x3 + 2).toNatClampNeg), (xs (x3 + 3).toNatClampNeg)]) (rest := [.int r]) dL_law_872 rfl mok_X11_demand bm_1650 rfl rfl rfl (Nat.le_of_ble_eq_true rfl) (fun _ _ _ => rfl) (by decide) (ct_X11_demand rfl e2) ?_
  refine L_eq (tgt := 1434) dL_law_875 (by decide) rfl ?_
  exact kk _ _ hR'
set_option maxRecDepth 100000 in
set_option maxHeartbeats 4000000 in
theorem lc_load {l : Launch} {G : GE} {b L : Nat} {xs : Nat → Int32} {x3 : Int32} {RR : MH → MH → Prop} (hJ : J_load RR) (hi1 : vp_in (x3 + 1) L) (hi2 : vp_in (x3 + 2) L) (hi3 : vp_in (x3 + 3) L) (hi4 : vp_in (x3 + 4) L) (hi5 : vp_in (x3 + 5) L) {hx hm : MH} (hR : RR hx hm) (kk : ∀ hx' hm', RR hx' hm' → LJ l G b L xs 1434 x3 [] hx' hm') : LJ l G b L xs 880 x3 [] hx hm := by
  refine L_aload (pc' := 881) (q := 0) dL_law_880 rfl (by decide) ?_
  refine L_aload (pc' := 882) (q := 2) dL_law_881 rfl (by decide) ?_
  refine L_iload (pc' := 883) dL_law_882 rfl ?_
  refine L_iconst (v := 1) (pc' := 884) dL_law_883 rfl (by decide) ?_
  refine L_iadd (pc' := 885) dL_law_884 rfl ?_
  refine L_sld (pc' := 886) dL_law_885 rfl hi1 rfl ?_
  refine L_aload (pc' := 887) (q := 2) dL_law_886 rfl (by decide) ?_
  refine L_iload (pc' := 888) dL_law_887 rfl ?_
  refine L_iconst (v := 2) (pc' := 889) dL_law_888 rfl (by decide) ?_
  refine L_iadd (pc' := 890) dL_law_889 rfl ?_
  refine L_sld (pc' := 891) dL_law_890 rfl hi2 rfl ?_
  obtain ⟨r, hx', hm', e1, e2, hR'⟩ := hJ (xs (x3 + 1).toNatClampNeg) (xs (x3 + 2).toNatClampNeg) hx hm  hR
  refine L_cxL (r, hx') (pc' := 894) (As := [(xs (x3 + 1).toNatClampNeg), (xs (x3 + 2).toNatClampNeg)]) (rest := []) dL_law_891 rfl mok_X10_load bm_933 rfl rfl rfl (Nat.le_of_ble_eq_true rfl) (fun _ _ _ => rfl) (by decide) (ct_X10_load rfl e1) ?_
  refine L_aload (pc' := 895) (q := 1) dL_law_894 rfl (by decide) ?_
  refine L_aload (pc' := 896) (q := 2) dL_law_895 rfl (by decide) ?_
  refine L_iload (pc' := 897) dL_law_896 rfl ?_
  refine L_iconst (v := 1) (pc' := 898) dL_law_897 rfl (by decide) ?_
  refine L_iadd (pc' := 899) dL_law_898 rfl ?_
  refine L_sld (pc' := 900) dL_law_899 rfl hi1 rfl ?_
  refine L_aload (pc' := 901) (q := 2) dL_law_900 rfl (by decide) ?_
  refine L_iload (pc' := 902) dL_law_901 rfl ?_
  refine L_iconst (v := 2) (pc' := 903) dL_law_902 rfl (by decide) ?_
  refine L_iadd (pc' := 904) dL_law_903 rfl ?_
  refine L_sld (pc' := 905) dL_law_904 rfl hi2 rfl ?_
  refine L_cmL (r, hm') (pc' := 908) (As := [(xs (x3 + 1).toNatClampNeg), (xs (x3 + 2).toNatClampNeg)]) (rest := [.long r]) dL_law_905 rfl mok_X11_load bm_1659 rfl rfl rfl (Nat.le_of_ble_eq_true rfl) (fun _ _ _ => rfl) (by decide) (ct_X11_load rfl e2) ?_
  refine L_lcmp (pc' := 909) dL_law_908 rfl ?_
  refine L_eq0 (tgt := 1434) (pc' := 912) dL_law_909 (by decide) rfl (fun _ => ?_) (fun q => absurd ((zq_eq _ _).mpr rfl) q)
  exact kk _ _ hR'
set_option maxRecDepth 100000 in
set_option maxHeartbeats 4000000 in
theorem lc_heaviest {l : Launch} {G : GE} {b L : Nat} {xs : Nat → Int32} {x3 : Int32} {RR : MH → MH → Prop} (hJ : J_heaviest RR) (hi1 : vp_in (x3 + 1) L) (hi2 : vp_in (x3 + 2) L) (hi3 : vp_in (x3 + 3) L) (hi4 : vp_in (x3 + 4) L) (hi5 : vp_in (x3 + 5) L) {hx hm : MH} (hR : RR hx hm) (kk : ∀ hx' hm', RR hx' hm' → LJ l G b L xs 1434 x3 [] hx' hm') : LJ l G b L xs 914 x3 [] hx hm := by
  refine L_aload (pc' := 915) (q := 0) dL_law_914 rfl (by decide) ?_
  obtain ⟨r, hx', hm', e1, e2, hR'⟩ := hJ  hx hm  hR
  refine L_cxI (r, hx') (pc' := 918) (As := []) (rest := []) dL_law_915 rfl mok_X10_heaviest bm_961 rfl rfl rfl (Nat.le_of_ble_eq_true rfl) (fun _ _ _ => rfl) (by decide) (ct_X10_heaviest rfl e1) ?_
  refine L_aload (pc' := 919) (q := 1) dL_law_918 rfl (by decide) ?_
  refine L_cmI (r, hm') (pc' := 922) (As := []) (rest := [.int r]) dL_law_919 rfl mok_X11_heaviest bm_1671 rfl rfl rfl (Nat.le_of_ble_eq_true rfl) (fun _ _ _ => rfl) (by decide) (ct_X11_heaviest rfl e2) ?_
  refine L_eq (tgt := 1434) dL_law_922 (by decide) rfl ?_
  exact kk _ _ hR'
set_option maxRecDepth 100000 in
set_option maxHeartbeats 4000000 in
theorem lc_repair {l : Launch} {G : GE} {b L : Nat} {xs : Nat → Int32} {x3 : Int32} {RR : MH → MH → Prop} (hJ : J_repair RR) (hi1 : vp_in (x3 + 1) L) (hi2 : vp_in (x3 + 2) L) (hi3 : vp_in (x3 + 3) L) (hi4 : vp_in (x3 + 4) L) (hi5 : vp_in (x3 + 5) L) {hx hm : MH} (hR : RR hx hm) (kk : ∀ hx' hm', RR hx' hm' → LJ l G b L xs 1434 x3 [] hx' hm') : LJ l G b L xs 927 x3 [] hx hm := by
  refine L_aload (pc' := 928) (q := 0) dL_law_927 rfl (by decide) ?_
  refine L_aload (pc' := 929) (q := 2) dL_law_928 rfl (by decide) ?_
  refine L_iload (pc' := 930) dL_law_929 rfl ?_
  refine L_iconst (v := 1) (pc' := 931) dL_law_930 rfl (by decide) ?_
  refine L_iadd (pc' := 932) dL_law_931 rfl ?_
  refine L_sld (pc' := 933) dL_law_932 rfl hi1 rfl ?_
  refine L_aload (pc' := 934) (q := 2) dL_law_933 rfl (by decide) ?_
  refine L_iload (pc' := 935) dL_law_934 rfl ?_
  refine L_iconst (v := 2) (pc' := 936) dL_law_935 rfl (by decide) ?_
  refine L_iadd (pc' := 937) dL_law_936 rfl ?_
  refine L_sld (pc' := 938) dL_law_937 rfl hi2 rfl ?_
  obtain ⟨r, hx', hm', e1, e2, hR'⟩ := hJ (xs (x3 + 1).toNatClampNeg) (xs (x3 + 2).toNatClampNeg) hx hm  hR
  refine L_cxI (r, hx') (pc' := 941) (As := [(xs (x3 + 1).toNatClampNeg), (xs (x3 + 2).toNatClampNeg)]) (rest := []) dL_law_938 rfl mok_X10_repair bm_969 rfl rfl rfl (Nat.le_of_ble_eq_true rfl) (fun _ _ _ => rfl) (by decide) (ct_X10_repair rfl e1) ?_
  refine L_aload (pc' := 942) (q := 1) dL_law_941 rfl (by decide) ?_
  refine L_aload (pc' := 943) (q := 2) dL_law_942 rfl (by decide) ?_
  refine L_iload (pc' := 944) dL_law_943 rfl ?_
  refine L_iconst (v := 1) (pc' := 945) dL_law_944 rfl (by decide) ?_
  refine L_iadd (pc' := 946) dL_law_945 rfl ?_
  refine L_sld (pc' := 947) dL_law_946 rfl hi1 rfl ?_
  refine L_aload (pc' := 948) (q := 2) dL_law_947 rfl (by decide) ?_
  refine L_iload (pc' := 949) dL_law_948 rfl ?_
  refine L_iconst (v := 2) (pc' := 950) dL_law_949 rfl (by decide) ?_
  refine L_iadd (pc' := 951) dL_law_950 rfl ?_
  refine L_sld (pc' := 952) dL_law_951 rfl hi2 rfl ?_
  refine L_cmI (r, hm') (pc' := 955) (As := [(xs (x3 + 1).toNatClampNeg), (xs (x3 + 2).toNatClampNeg)]) (rest := [.int r]) dL_law_952 rfl mok_X11_repair bm_1679 rfl rfl rfl (Nat.le_of_ble_eq_true rfl) (fun _ _ _ => rfl) (by decide) (ct_X11_repair rfl e2) ?_
  refine L_eq (tgt := 1434) dL_law_955 (by decide) rfl ?_
  exact kk _ _ hR'
set_option maxRecDepth 100000 in
set_option maxHeartbeats 4000000 in
theorem lc_guards {l : Launch} {G : GE} {b L : Nat} {xs : Nat → Int32} {x3 : Int32} {RR : MH → MH → Prop} (hJ : J_guards RR) (hi1 : vp_in (x3 + 1) L) (hi2 : vp_in (x3 + 2) L) (hi3 : vp_in (x3 + 3) L) (hi4 : vp_in (x3 + 4) L) (hi5 : vp_in (x3 + 5) L) {hx hm : MH} (hR : RR hx hm) (kk : ∀ hx' hm', RR hx' hm' → LJ l G b L xs 1434 x3 [] hx' hm') : LJ l G b L xs 960 x3 [] hx hm := by
  refine L_aload (pc' := 961) (q := 0) dL_law_960 rfl (by decide) ?_
  refine L_aload (pc' := 962) (q := 2) dL_law_961 rfl (by decide) ?_
  refine L_iload (pc' := 963) dL_law_962 rfl ?_
  refine L_iconst (v := 1) (pc' := 964) dL_law_963 rfl (by decide) ?_
  refine L_iadd (pc' := 965) dL_law_964 rfl ?_
  refine L_sld (pc' := 966) dL_law_965 rfl hi1 rfl ?_
  obtain ⟨r, hx', hm', e1, e2, hR'⟩ := hJ (xs (x3 + 1).toNatClampNeg) hx hm  hR
  refine L_cxI (r, hx') (pc' := 969) (As := [(xs (x3 + 1).toNatClampNeg)]) (rest := []) dL_law_966 rfl mok_X10_guards bm_980 rfl rfl rfl (Nat.le_of_ble_eq_true rfl) (fun _ _ _ => rfl) (by decide) (ct_X10_guards rfl e1) ?_
  refine L_aload (pc' := 970) (q := 1) dL_law_969 rfl (by decide) ?_
  refine L_aload (pc' := 971) (q := 2) dL_law_970 rfl (by decide) ?_
  refine L_iload (pc' := 972) dL_law_971 rfl ?_
  refine L_iconst (v := 1) (pc' := 973) dL_law_972 rfl (by decide) ?_
  refine L_iadd (pc' := 974) dL_law_973 rfl ?_
  refine L_sld (pc' := 975) dL_law_974 rfl hi1 rfl ?_
  refine L_cmI (r, hm') (pc' := 978) (As := [(xs (x3 + 1).toNatClampNeg)]) (rest := [.int r]) dL_law_975 rfl mok_X11_guards bm_1691 rfl rfl rfl (Nat.le_of_ble_eq_true rfl) (fun _ _ _ => rfl) (by decide) (ct_X11_guards rfl e2) ?_
  refine L_eq (tgt := 1434) dL_law_978 (by decide) rfl ?_
  exact kk _ _ hR'
set_option maxRecDepth 100000 in
set_option maxHeartbeats 4000000 in
theorem lc_writable {l : Launch} {G : GE} {b L : Nat} {xs : Nat → Int32} {x3 : Int32} {RR : MH → MH → Prop} (hJ : J_writable RR) (hi1 : vp_in (x3 + 1) L) (hi2 : vp_in (x3 + 2) L) (hi3 : vp_in (x3 + 3) L) (hi4 : vp_in (x3 + 4) L) (hi5 : vp_in (x3 + 5) L) {hx hm : MH} (hR : RR hx hm) (kk : ∀ hx' hm', RR hx' hm' → LJ l G b L xs 1434 x3 [] hx' hm') : LJ l G b L xs 983 x3 [] hx hm := by
  refine L_aload (pc' := 984) (q := 0) dL_law_983 rfl (by decide) ?_
  refine L_aload (pc' := 985) (q := 2) dL_law_984 rfl (by decide) ?_
  refine L_iload (pc' := 986) dL_law_985 rfl ?_
  refine L_iconst (v := 1) (pc' := 987) dL_law_986 rfl (by decide) ?_
  refine L_iadd (pc' := 988) dL_law_987 rfl ?_
  refine L_sld (pc' := 989) dL_law_988 rfl hi1 rfl ?_
  refine L_aload (pc' := 990) (q := 2) dL_law_989 rfl (by decide) ?_
  refine L_iload (pc' := 991) dL_law_990 rfl ?_
  refine L_iconst (v := 2) (pc' := 992) dL_law_991 rfl (by decide) ?_
  refine L_iadd (pc' := 993) dL_law_992 rfl ?_
  refine L_sld (pc' := 994) dL_law_993 rfl hi2 rfl ?_
  refine L_aload (pc' := 995) (q := 2) dL_law_994 rfl (by decide) ?_
  refine L_iload (pc' := 996) dL_law_995 rfl ?_
  refine L_iconst (v := 3) (pc' := 997) dL_law_996 rfl (by decide) ?_
  refine L_iadd (pc' := 998) dL_law_997 rfl ?_
  refine L_sld (pc' := 999) dL_law_998 rfl hi3 rfl ?_
  refine L_aload (pc' := 1000) (q := 2) dL_law_999 rfl (by decide) ?_
  refine L_iload (pc' := 1001) dL_law_1000 rfl ?_
  refine L_iconst (v := 4) (pc' := 1002) dL_law_1001 rfl (by decide) ?_
  refine L_iadd (pc' := 1003) dL_law_1002 rfl ?_
  refine L_sld (pc' := 1004) dL_law_1003 rfl hi4 rfl ?_
  obtain ⟨r, hx', hm', e1, e2, hR'⟩ := hJ (xs (x3 + 1).toNatClampNeg) (xs (x3 + 2).toNatClampNeg) (xs (x3 + 3).toNatClampNeg) (xs (x3 + 4).toNatClampNeg) hx hm  hR
  refine L_cxI (r, hx') (pc' := 1007) (As := [(xs (x3 + 1).toNatClampNeg), (xs (x3 + 2).toNatClampNeg), (xs (x3 + 3).toNatClampNeg), (xs (x3 + 4).toNatClampNeg)]) (rest := []) dL_law_1004 rfl mok_X10_writable bm_991 rfl rfl rfl (Nat.le_of_ble_eq_true rfl) (fun _ _ _ => rfl) (by decide) (ct_X10_writable rfl e1) ?_
  refine L_aload (pc' := 1008) (q := 1) dL_law_1007 rfl (by decide) ?_
  refine L_aload (pc' := 1009) (q := 2) dL_law_1008 rfl (by decide) ?_
  refine L_iload (pc' := 1010) dL_law_1009 rfl ?_
  refine L_iconst (v := 1) (pc' := 1011) dL_law_1010 rfl (by decide) ?_
  refine L_iadd (pc' := 1012) dL_law_1011 rfl ?_
  refine L_sld (pc' := 1013) dL_law_1012 rfl hi1 rfl ?_
  refine L_aload (pc' := 1014) (q := 2) dL_law_1013 rfl (by decide) ?_
  refine L_iload (pc' := 1015) dL_law_1014 rfl ?_
  refine L_iconst (v := 2) (pc' := 1016) dL_law_1015 rfl (by decide) ?_
  refine L_iadd (pc' := 1017) dL_law_1016 rfl ?_
  refine L_sld (pc' := 1018) dL_law_1017 rfl hi2 rfl ?_
  refine L_aload (pc' := 1019) (q := 2) dL_law_1018 rfl (by decide) ?_
  refine L_iload (pc' := 1020) dL_law_1019 rfl ?_
  refine L_iconst (v := 3) (pc' := 1021) dL_law_1020 rfl (by decide) ?_
  refine L_iadd (pc' := 1022) dL_law_1021 rfl ?_
  refine L_sld (pc' := 1023) dL_law_1022 rfl hi3 rfl ?_
  refine L_aload (pc' := 1024) (q := 2) dL_law_1023 rfl (by decide) ?_
  refine L_iload (pc' := 1025) dL_law_1024 rfl ?_
  refine L_iconst (v := 4) (pc' := 1026) dL_law_1025 rfl (by decide) ?_
  refine L_iadd (pc' := 1027) dL_law_1026 rfl ?_
  refine L_sld (pc' := 1028) dL_law_1027 rfl hi4 rfl ?_
  refine L_cmI (r, hm') (pc' := 1031) (As := [(xs (x3 + 1).toNatClampNeg), (xs (x3 + 2).toNatClampNeg), (xs (x3 + 3).toNatClampNeg), (xs (x3 + 4).toNatClampNeg)]) (rest := [.int r]) dL_law_1028 rfl mok_X11_writable bm_1695 rfl rfl rfl (Nat.le_of_ble_eq_true rfl) (fun _ _ _ => rfl) (by decide) (ct_X11_writable rfl e2) ?_
  refine L_eq (tgt := 1434) dL_law_1031 (by decide) rfl ?_
  exact kk _ _ hR'
set_option maxRecDepth 100000 in
set_option maxHeartbeats 4000000 in
theorem lc_stays {l : Launch} {G : GE} {b L : Nat} {xs : Nat → Int32} {x3 : Int32} {RR : MH → MH → Prop} (hJ : J_stays RR) (hi1 : vp_in (x3 + 1) L) (hi2 : vp_in (x3 + 2) L) (hi3 : vp_in (x3 + 3) L) (hi4 : vp_in (x3 + 4) L) (hi5 : vp_in (x3 + 5) L) {hx hm : MH} (hR : RR hx hm) (kk : ∀ hx' hm', RR hx' hm' → LJ l G b L xs 1434 x3 [] hx' hm') : LJ l G b L xs 1036 x3 [] hx hm := by
  refine L_aload (pc' := 1037) (q := 0) dL_law_1036 rfl (by decide) ?_
  refine L_aload (pc' := 1038) (q := 2) dL_law_1037 rfl (by decide) ?_
  refine L_iload (pc' := 1039) dL_law_1038 rfl ?_
  refine L_iconst (v := 1) (pc' := 1040) dL_law_1039 rfl (by decide) ?_
  refine L_iadd (pc' := 1041) dL_law_1040 rfl ?_
  refine L_sld (pc' := 1042) dL_law_1041 rfl hi1 rfl ?_
  refine L_aload (pc' := 1043) (q := 2) dL_law_1042 rfl (by decide) ?_
  refine L_iload (pc' := 1044) dL_law_1043 rfl ?_
  refine L_iconst (v := 2) (pc' := 1045) dL_law_1044 rfl (by decide) ?_
  refine L_iadd (pc' := 1046) dL_law_1045 rfl ?_
  refine L_sld (pc' := 1047) dL_law_1046 rfl hi2 rfl ?_
  obtain ⟨r, hx', hm', e1, e2, hR'⟩ := hJ (xs (x3 + 1).toNatClampNeg) (xs (x3 + 2).toNatClampNeg) hx hm  hR
  refine L_cxI (r, hx') (pc' := 1050) (As := [(xs (x3 + 1).toNatClampNeg), (xs (x3 + 2).toNatClampNeg)]) (rest := []) dL_law_1047 rfl mok_X10_stays bm_1003 rfl rfl rfl (Nat.le_of_ble_eq_true rfl) (fun _ _ _ => rfl) (by decide) (ct_X10_stays rfl e1) ?_
  refine L_aload (pc' := 1051) (q := 1) dL_law_1050 rfl (by decide) ?_
  refine L_aload (pc' := 1052) (q := 2) dL_law_1051 rfl (by decide) ?_
  refine L_iload (pc' := 1053) dL_law_1052 rfl ?_
  refine L_iconst (v := 1) (pc' := 1054) dL_law_1053 rfl (by decide) ?_
  refine L_iadd (pc' := 1055) dL_law_1054 rfl ?_
  refine L_sld (pc' := 1056) dL_law_1055 rfl hi1 rfl ?_
  refine L_aload (pc' := 1057) (q := 2) dL_law_1056 rfl (by decide) ?_
  refine L_iload (pc' := 1058) dL_law_1057 rfl ?_
  refine L_iconst (v := 2) (pc' := 1059) dL_law_1058 rfl (by decide) ?_
  refine L_iadd (pc' := 1060) dL_law_1059 rfl ?_
  refine L_sld (pc' := 1061) dL_law_1060 rfl hi2 rfl ?_
  refine L_cmI (r, hm') (pc' := 1064) (As := [(xs (x3 + 1).toNatClampNeg), (xs (x3 + 2).toNatClampNeg)]) (rest := [.int r]) dL_law_1061 rfl mok_X11_stays bm_1703 rfl rfl rfl (Nat.le_of_ble_eq_true rfl) (fun _ _ _ => rfl) (by decide) (ct_X11_stays rfl e2) ?_
  refine L_eq (tgt := 1434) dL_law_1064 (by decide) rfl ?_
  exact kk _ _ hR'
set_option maxRecDepth 100000 in
set_option maxHeartbeats 4000000 in
theorem lc_keep {l : Launch} {G : GE} {b L : Nat} {xs : Nat → Int32} {x3 : Int32} {RR : MH → MH → Prop} (hJ : J_keep RR) (hi1 : vp_in (x3 + 1) L) (hi2 : vp_in (x3 + 2) L) (hi3 : vp_in (x3 + 3) L) (hi4 : vp_in (x3 + 4) L) (hi5 : vp_in (x3 + 5) L) {hx hm : MH} (hR : RR hx hm) (kk : ∀ hx' hm', RR hx' hm' → LJ l G b L xs 1434 x3 [] hx' hm') : LJ l G b L xs 1069 x3 [] hx hm := by
  refine L_aload (pc' := 1070) (q := 0) dL_law_1069 rfl (by decide) ?_
  obtain ⟨r, hx', hm', e1, e2, hR'⟩ := hJ  hx hm  hR
  refine L_cxI (r, hx') (pc' := 1073) (As := []) (rest := []) dL_law_1070 rfl mok_X10_keep bm_1020 rfl rfl rfl (Nat.le_of_ble_eq_true rfl) (fun _ _ _ => rfl) (by decide) (ct_X10_keep rfl e1) ?_
  refine L_aload (pc' := 1074) (q := 1) dL_law_1073 rfl (by decide) ?_
  refine L_cmI (r, hm') (pc' := 1077) (As := []) (rest := [.int r]) dL_law_1074 rfl mok_X11_keep bm_1711 rfl rfl rfl (Nat.le_of_ble_eq_true rfl) (fun _ _ _ => rfl) (by decide) (ct_X11_keep rfl e2) ?_
  refine L_eq (tgt := 1434) dL_law_1077 (by decide) rfl ?_
  exact kk _ _ hR'
set_option maxRecDepth 100000 in
set_option maxHeartbeats 4000000 in
theorem lc_take {l : Launch} {G : GE} {b L : Nat} {xs : Nat → Int32} {x3 : Int32} {RR : MH → MH → Prop} (hJ : J_take RR) (hi1 : vp_in (x3 + 1) L) (hi2 : vp_in (x3 + 2) L) (hi3 : vp_in (x3 + 3) L) (hi4 : vp_in (x3 + 4) L) (hi5 : vp_in (x3 + 5) L) {hx hm : MH} (hR : RR hx hm) (kk : ∀ hx' hm', RR hx' hm' → LJ l G b L xs 1434 x3 [] hx' hm') : LJ l G b L xs 1082 x3 [] hx hm := by
  refine L_aload (pc' := 1083) (q := 0) dL_law_1082 rfl (by decide) ?_
  refine L_aload (pc' := 1084) (q := 2) dL_law_1083 rfl (by decide) ?_
  refine L_iload (pc' := 1085) dL_law_1084 rfl ?_
  refine L_iconst (v := 1) (pc' := 1086) dL_law_1085 rfl (by decide) ?_
  refine L_iadd (pc' := 1087) dL_law_1086 rfl ?_
  refine L_sld (pc' := 1088) dL_law_1087 rfl hi1 rfl ?_
  obtain ⟨r, hx', hm', e1, e2, hR'⟩ := hJ (xs (x3 + 1).toNatClampNeg) hx hm  hR
  refine L_cxI (r, hx') (pc' := 1091) (As := [(xs (x3 + 1).toNatClampNeg)]) (rest := []) dL_law_1088 rfl mok_X10_take bm_1028 rfl rfl rfl (Nat.le_of_ble_eq_true rfl) (fun _ _ _ => rfl) (by decide) (ct_X10_take rfl e1) ?_
  refine L_aload (pc' := 1092) (q := 1) dL_law_1091 rfl (by decide) ?_
  refine L_aload (pc' := 1093) (q := 2) dL_law_1092 rfl (by decide) ?_
  refine L_iload (pc' := 1094) dL_law_1093 rfl ?_
  refine L_iconst (v := 1) (pc' := 1095) dL_law_1094 rfl (by decide) ?_
  refine L_iadd (pc' := 1096) dL_law_1095 rfl ?_
  refine L_sld (pc' := 1097) dL_law_1096 rfl hi1 rfl ?_
  refine L_cmI (r, hm') (pc' := 1100) (As := [(xs (x3 + 1).toNatClampNeg)]) (rest := [.int r]) dL_law_1097 rfl mok_X11_take bm_1719 rfl rfl rfl (Nat.le_of_ble_eq_true rfl) (fun _ _ _ => rfl) (by decide) (ct_X11_take rfl e2) ?_
  refine L_eq (tgt := 1434) dL_law_1100 (by decide) rfl ?_
  exact kk _ _ hR'
set_option maxRecDepth 100000 in
set_option maxHeartbeats 4000000 in
theorem lc_feed {l : Launch} {G : GE} {b L : Nat} {xs : Nat → Int32} {x3 : Int32} {RR : MH → MH → Prop} (hJ : J_feed RR) (hi1 : vp_in (x3 + 1) L) (hi2 : vp_in (x3 + 2) L) (hi3 : vp_in (x3 + 3) L) (hi4 : vp_in (x3 + 4) L) (hi5 : vp_in (x3 + 5) L) {hx hm : MH} (hR : RR hx hm) (kk : ∀ hx' hm', RR hx' hm' → LJ l G b L xs 1434 x3 [] hx' hm') : LJ l G b L xs 1105 x3 [] hx hm := by
  refine L_aload (pc' := 1106) (q := 0) dL_law_1105 rfl (by decide) ?_
  refine L_aload (pc' := 1107) (q := 2) dL_law_1106 rfl (by decide) ?_
  refine L_iload (pc' := 1108) dL_law_1107 rfl ?_
  refine L_iconst (v := 1) (pc' := 1109) dL_law_1108 rfl (by decide) ?_
  refine L_iadd (pc' := 1110) dL_law_1109 rfl ?_
  refine L_sld (pc' := 1111) dL_law_1110 rfl hi1 rfl ?_
  refine L_aload (pc' := 1112) (q := 2) dL_law_1111 rfl (by decide) ?_
  refine L_iload (pc' := 1113) dL_law_1112 rfl ?_
  refine L_iconst (v := 2) (pc' := 1114) dL_law_1113 rfl (by decide) ?_
  refine L_iadd (pc' := 1115) dL_law_1114 rfl ?_
  refine L_sld (pc' := 1116) dL_law_1115 rfl hi2 rfl ?_
  refine L_aload (pc' := 1117) (q := 2) dL_law_1116 rfl (by decide) ?_
  refine L_iload (pc' := 1118) dL_law_1117 rfl ?_
  refine L_iconst (v := 3) (pc' := 1119) dL_law_1118 rfl (by decide) ?_
  refine L_iadd (pc' := 1120) dL_law_1119 rfl ?_
  refine L_sld (pc' := 1121) dL_law_1120 rfl hi3 rfl ?_
  refine L_aload (pc' := 1122) (q := 2) dL_law_1121 rfl (by decide) ?_
  refine L_iload (pc' := 1123) dL_law_1122 rfl ?_
  refine L_iconst (v := 4) (pc' := 1124) dL_law_1123 rfl (by decide) ?_
  refine L_iadd (pc' := 1125) dL_law_1124 rfl ?_
  refine L_sld (pc' := 1126) dL_law_1125 rfl hi4 rfl ?_
  refine L_aload (pc' := 1127) (q := 2) dL_law_1126 rfl (by decide) ?_
  refine L_iload (pc' := 1128) dL_law_1127 rfl ?_
  refine L_iconst (v := 5) (pc' := 1129) dL_law_1128 rfl (by decide) ?_
  refine L_iadd (pc' := 1130) dL_law_1129 rfl ?_
  refine L_sld (pc' := 1131) dL_law_1130 rfl hi5 rfl ?_
  obtain ⟨r, hx', hm', e1, e2, hR'⟩ := hJ (xs (x3 + 1).toNatClampNeg) (xs (x3 + 2).toNatClampNeg) (xs (x3 + 3).toNatClampNeg) (xs (x3 + 4).toNatClampNeg) (xs (x3 + 5).toNatClampNeg) hx hm  hR
  refine L_cxI (r, hx') (pc' := 1134) (As := [(xs (x3 + 1).toNatClampNeg), (xs (x3 + 2).toNatClampNeg), (xs (x3 + 3).toNatClampNeg), (xs (x3 + 4).toNatClampNeg), (xs (x3 + 5).toNatClampNeg)]) (rest := []) dL_law_1131 rfl mok_X10_feed bm_1032 rfl rfl rfl (Nat.le_of_ble_eq_true rfl) (fun _ _ _ => rfl) (by decide) (ct_X10_feed rfl e1) ?_
  refine L_aload (pc' := 1135) (q := 1) dL_law_1134 rfl (by decide) ?_
  refine L_aload (pc' := 1136) (q := 2) dL_law_1135 rfl (by decide) ?_
  refine L_iload (pc' := 1137) dL_law_1136 rfl ?_
  refine L_iconst (v := 1) (pc' := 1138) dL_law_1137 rfl (by decide) ?_
  refine L_iadd (pc' := 1139) dL_law_1138 rfl ?_
  refine L_sld (pc' := 1140) dL_law_1139 rfl hi1 rfl ?_
  refine L_aload (pc' := 1141) (q := 2) dL_law_1140 rfl (by decide) ?_
  refine L_iload (pc' := 1142) dL_law_1141 rfl ?_
  refine L_iconst (v := 2) (pc' := 1143) dL_law_1142 rfl (by decide) ?_
  refine L_iadd (pc' := 1144) dL_law_1143 rfl ?_
  refine L_sld (pc' := 1145) dL_law_1144 rfl hi2 rfl ?_
  refine L_aload (pc' := 1146) (q := 2) dL_law_1145 rfl (by decide) ?_
  refine L_iload (pc' := 1147) dL_law_1146 rfl ?_
  refine L_iconst (v := 3) (pc' := 1148) dL_law_1147 rfl (by decide) ?_
  refine L_iadd (pc' := 1149) dL_law_1148 rfl ?_
  refine L_sld (pc' := 1150) dL_law_1149 rfl hi3 rfl ?_
  refine L_aload (pc' := 1151) (q := 2) dL_law_1150 rfl (by decide) ?_
  refine L_iload (pc' := 1152) dL_law_1151 rfl ?_
  refine L_iconst (v := 4) (pc' := 1153) dL_law_1152 rfl (by decide) ?_
  refine L_iadd (pc' := 1154) dL_law_1153 rfl ?_
  refine L_sld (pc' := 1155) dL_law_1154 rfl hi4 rfl ?_
  refine L_aload (pc' := 1156) (q := 2) dL_law_1155 rfl (by decide) ?_
  refine L_iload (pc' := 1157) dL_law_1156 rfl ?_
  refine L_iconst (v := 5) (pc' := 1158) dL_law_1157 rfl (by decide) ?_
  refine L_iadd (pc' := 1159) dL_law_1158 rfl ?_
  refine L_sld (pc' := 1160) dL_law_1159 rfl hi5 rfl ?_
  refine L_cmI (r, hm') (pc' := 1163) (As := [(xs (x3 + 1).toNatClampNeg), (xs (x3 + 2).toNatClampNeg), (xs (x3 + 3).toNatClampNeg), (xs (x3 + 4).toNatClampNeg), (xs (x3 + 5).toNatClampNeg)]) (rest := [.int r]) dL_law_1160 rfl mok_X11_feed bm_1723 rfl rfl rfl (Nat.le_of_ble_eq_true rfl) (fun _ _ _ => rfl) (by decide) (ct_X11_feed rfl e2) ?_
  refine L_eq (tgt := 1434) dL_law_1163 (by decide) rfl ?_
  exact kk _ _ hR'
set_option maxRecDepth 100000 in
set_option maxHeartbeats 4000000 in
theorem lc_end {l : Launch} {G : GE} {b L : Nat} {xs : Nat → Int32} {x3 : Int32} {RR : MH → MH → Prop} (hJ : J_end RR) (hi1 : vp_in (x3 + 1) L) (hi2 : vp_in (x3 + 2) L) (hi3 : vp_in (x3 + 3) L) (hi4 : vp_in (x3 + 4) L) (hi5 : vp_in (x3 + 5) L) {hx hm : MH} (hR : RR hx hm) (kk : ∀ hx' hm', RR hx' hm' → LJ l G b L xs 1434 x3 [] hx' hm') : LJ l G b L xs 1168 x3 [] hx hm := by
  refine L_aload (pc' := 1169) (q := 0) dL_law_1168 rfl (by decide) ?_
  refine L_aload (pc' := 1170) (q := 2) dL_law_1169 rfl (by decide) ?_
  refine L_iload (pc' := 1171) dL_law_1170 rfl ?_
  refine L_iconst (v := 1) (pc' := 1172) dL_law_1171 rfl (by decide) ?_
  refine L_iadd (pc' := 1173) dL_law_1172 rfl ?_
  refine L_sld (pc' := 1174) dL_law_1173 rfl hi1 rfl ?_
  obtain ⟨r, hx', hm', e1, e2, hR'⟩ := hJ (xs (x3 + 1).toNatClampNeg) hx hm  hR
  refine L_cxI (r, hx') (pc' := 1177) (As := [(xs (x3 + 1).toNatClampNeg)]) (rest := []) dL_law_1174 rfl mok_X10_end bm_1040 rfl rfl rfl (Nat.le_of_ble_eq_true rfl) (fun _ _ _ => rfl) (by decide) (ct_X10_end rfl e1) ?_
  refine L_aload (pc' := 1178) (q := 1) dL_law_1177 rfl (by decide) ?_
  refine L_aload (pc' := 1179) (q := 2) dL_law_1178 rfl (by decide) ?_
  refine L_iload (pc' := 1180) dL_law_1179 rfl ?_
  refine L_iconst (v := 1) (pc' := 1181) dL_law_1180 rfl (by decide) ?_
  refine L_iadd (pc' := 1182) dL_law_1181 rfl ?_
  refine L_sld (pc' := 1183) dL_law_1182 rfl hi1 rfl ?_
  refine L_cmI (r, hm') (pc' := 1186) (As := [(xs (x3 + 1).toNatClampNeg)]) (rest := [.int r]) dL_law_1183 rfl mok_X11_end bm_1731 rfl rfl rfl (Nat.le_of_ble_eq_true rfl) (fun _ _ _ => rfl) (by decide) (ct_X11_end rfl e2) ?_
  refine L_eq (tgt := 1434) dL_law_1186 (by decide) rfl ?_
  exact kk _ _ hR'
set_option maxRecDepth 100000 in
set_option maxHeartbeats 4000000 in
theorem lc_text {l : Launch} {G : GE} {b L : Nat} {xs : Nat → Int32} {x3 : Int32} {RR : MH → MH → Prop} (hJ : J_text RR) (hi1 : vp_in (x3 + 1) L) (hi2 : vp_in (x3 + 2) L) (hi3 : vp_in (x3 + 3) L) (hi4 : vp_in (x3 + 4) L) (hi5 : vp_in (x3 + 5) L) {hx hm : MH} (hR : RR hx hm) (kk : ∀ hx' hm', RR hx' hm' → LJ l G b L xs 1434 x3 [] hx' hm') : LJ l G b L xs 1191 x3 [] hx hm := by
  refine L_aload (pc' := 1192) (q := 0) dL_law_1191 rfl (by decide) ?_
  obtain ⟨r, hx', hm', e1, e2, hR'⟩ := hJ  hx hm  hR
  refine L_cxI (r, hx') (pc' := 1195) (As := []) (rest := []) dL_law_1192 rfl mok_X10_text bm_1044 rfl rfl rfl (Nat.le_of_ble_eq_true rfl) (fun _ _ _ => rfl) (by decide) (ct_X10_text rfl e1) ?_
  refine L_aload (pc' := 1196) (q := 1) dL_law_1195 rfl (by decide) ?_
  refine L_cmI (r, hm') (pc' := 1199) (As := []) (rest := [.int r]) dL_law_1196 rfl mok_X11_text bm_1735 rfl rfl rfl (Nat.le_of_ble_eq_true rfl) (fun _ _ _ => rfl) (by decide) (ct_X11_text rfl e2) ?_
  refine L_eq (tgt := 1434) dL_law_1199 (by decide) rfl ?_
  exact kk _ _ hR'
set_option maxRecDepth 100000 in
set_option maxHeartbeats 4000000 in
theorem lc_fault {l : Launch} {G : GE} {b L : Nat} {xs : Nat → Int32} {x3 : Int32} {RR : MH → MH → Prop} (hJ : J_fault RR) (hi1 : vp_in (x3 + 1) L) (hi2 : vp_in (x3 + 2) L) (hi3 : vp_in (x3 + 3) L) (hi4 : vp_in (x3 + 4) L) (hi5 : vp_in (x3 + 5) L) {hx hm : MH} (hR : RR hx hm) (kk : ∀ hx' hm', RR hx' hm' → LJ l G b L xs 1434 x3 [] hx' hm') : LJ l G b L xs 1204 x3 [] hx hm := by
  refine L_aload (pc' := 1205) (q := 0) dL_law_1204 rfl (by decide) ?_
  refine L_aload (pc' := 1206) (q := 2) dL_law_1205 rfl (by decide) ?_
  refine L_iload (pc' := 1207) dL_law_1206 rfl ?_
  refine L_iconst (v := 1) (pc' := 1208) dL_law_1207 rfl (by decide) ?_
  refine L_iadd (pc' := 1209) dL_law_1208 rfl ?_
  refine L_sld (pc' := 1210) dL_law_1209 rfl hi1 rfl ?_
  obtain ⟨r, hx', hm', e1, e2, hR'⟩ := hJ (xs (x3 + 1).toNatClampNeg) hx hm  hR
  refine L_cxI (r, hx') (pc' := 1213) (As := [(xs (x3 + 1).toNatClampNeg)]) (rest := []) dL_law_1210 rfl mok_X10_fault bm_1172 rfl rfl rfl (Nat.le_of_ble_eq_true rfl) (fun _ _ _ => rfl) (by decide) (ct_X10_fault rfl e1) ?_
  refine L_aload (pc' := 1214) (q := 1) dL_law_1213 rfl (by decide) ?_
  refine L_aload (pc' := 1215) (q := 2) dL_law_1214 rfl (by decide) ?_
  refine L_iload (pc' := 1216) dL_law_1215 rfl ?_
  refine L_iconst (v := 1) (pc' := 1217) dL_law_1216 rfl (by decide) ?_
  refine L_iadd (pc' := 1218) dL_law_1217 rfl ?_
  refine L_sld (pc' := 1219) dL_law_1218 rfl hi1 rfl ?_
  refine L_cmI (r, hm') (pc' := 1222) (As := [(xs (x3 + 1).toNatClampNeg)]) (rest := [.int r]) dL_law_1219 rfl mok_X11_fault bm_1804 rfl rfl rfl (Nat.le_of_ble_eq_true rfl) (fun _ _ _ => rfl) (by decide) (ct_X11_fault rfl e2) ?_
  refine L_eq (tgt := 1434) dL_law_1222 (by decide) rfl ?_
  exact kk _ _ hR'
set_option maxRecDepth 100000 in
set_option maxHeartbeats 4000000 in
theorem lc_undo {l : Launch} {G : GE} {b L : Nat} {xs : Nat → Int32} {x3 : Int32} {RR : MH → MH → Prop} (hJ : J_undo RR) (hi1 : vp_in (x3 + 1) L) (hi2 : vp_in (x3 + 2) L) (hi3 : vp_in (x3 + 3) L) (hi4 : vp_in (x3 + 4) L) (hi5 : vp_in (x3 + 5) L) {hx hm : MH} (hR : RR hx hm) (kk : ∀ hx' hm', RR hx' hm' → LJ l G b L xs 1434 x3 [] hx' hm') : LJ l G b L xs 1227 x3 [] hx hm := by
  refine L_aload (pc' := 1228) (q := 0) dL_law_1227 rfl (by decide) ?_
  obtain ⟨r, hx', hm', e1, e2, hR'⟩ := hJ  hx hm  hR
  refine L_cxI (r, hx') (pc' := 1231) (As := []) (rest := []) dL_law_1228 rfl mok_X10_undo bm_1176 rfl rfl rfl (Nat.le_of_ble_eq_true rfl) (fun _ _ _ => rfl) (by decide) (ct_X10_undo rfl e1) ?_
  refine L_aload (pc' := 1232) (q := 1) dL_law_1231 rfl (by decide) ?_
  refine L_cmI (r, hm') (pc' := 1235) (As := []) (rest := [.int r]) dL_law_1232 rfl mok_X11_undo bm_1363 rfl rfl rfl (Nat.le_of_ble_eq_true rfl) (fun _ _ _ => rfl) (by decide) (ct_X11_undo rfl e2) ?_
  refine L_eq (tgt := 1434) dL_law_1235 (by decide) rfl ?_
  exact kk _ _ hR'
set_option maxRecDepth 100000 in
set_option maxHeartbeats 4000000 in
theorem lc_at {l : Launch} {G : GE} {b L : Nat} {xs : Nat → Int32} {x3 : Int32} {RR : MH → MH → Prop} (hJ : J_at RR) (hi1 : vp_in (x3 + 1) L) (hi2 : vp_in (x3 + 2) L) (hi3 : vp_in (x3 + 3) L) (hi4 : vp_in (x3 + 4) L) (hi5 : vp_in (x3 + 5) L) {hx hm : MH} (hR : RR hx hm) (kk : ∀ hx' hm', RR hx' hm' → LJ l G b L xs 1434 x3 [] hx' hm') : LJ l G b L xs 1240 x3 [] hx hm := by
  refine L_aload (pc' := 1241) (q := 0) dL_law_1240 rfl (by decide) ?_
  refine L_aload (pc' := 1242) (q := 2) dL_law_1241 rfl (by decide) ?_
  refine L_iload (pc' := 1243) dL_law_1242 rfl ?_
  refine L_iconst (v := 1) (pc' := 1244) dL_law_1243 rfl (by decide) ?_
  refine L_iadd (pc' := 1245) dL_law_1244 rfl ?_
  refine L_sld (pc' := 1246) dL_law_1245 rfl hi1 rfl ?_
  refine L_aload (pc' := 1247) (q := 2) dL_law_1246 rfl (by decide) ?_
  refine L_iload (pc' := 1248) dL_law_1247 rfl ?_
  refine L_iconst (v := 2) (pc' := 1249) dL_law_1248 rfl (by decide) ?_
  refine L_iadd (pc' := 1250) dL_law_1249 rfl ?_
  refine L_sld (pc' := 1251) dL_law_1250 rfl hi2 rfl ?_
  obtain ⟨r, hx', hm', e1, e2, hR'⟩ := hJ (xs (x3 + 1).toNatClampNeg) (xs (x3 + 2).toNatClampNeg) hx hm  hR
  refine L_cxI (r, hx') (pc' := 1254) (As := [(xs (x3 + 1).toNatClampNeg), (xs (x3 + 2).toNatClampNeg)]) (rest := []) dL_law_1251 rfl mok_X10_at bm_1184 rfl rfl rfl (Nat.le_of_ble_eq_true rfl) (fun _ _ _ => rfl) (by decide) (ct_X10_at rfl e1) ?_
  refine L_aload (pc' := 1255) (q := 1) dL_law_1254 rfl (by decide) ?_
  refine L_aload (pc' := 1256) (q := 2) dL_law_1255 rfl (by decide) ?_
  refine L_iload (pc' := 1257) dL_law_1256 rfl ?_
  refine L_iconst (v := 1) (pc' := 1258) dL_law_1257 rfl (by decide) ?_
  refine L_iadd (pc' := 1259) dL_law_1258 rfl ?_
  refine L_sld (pc' := 1260) dL_law_1259 rfl hi1 rfl ?_
  refine L_aload (pc' := 1261) (q := 2) dL_law_1260 rfl (by decide) ?_
  refine L_iload (pc' := 1262) dL_law_1261 rfl ?_
  refine L_iconst (v := 2) (pc' := 1263) dL_law_1262 rfl (by decide) ?_
  refine L_iadd (pc' := 1264) dL_law_1263 rfl ?_
  refine L_sld (pc' := 1265) dL_law_1264 rfl hi2 rfl ?_
  refine L_cmI (r, hm') (pc' := 1268) (As := [(xs (x3 + 1).toNatClampNeg), (xs (x3 + 2).toNatClampNeg)]) (rest := [.int r]) dL_law_1265 rfl mok_X11_at bm_1808 rfl rfl rfl (Nat.le_of_ble_eq_true rfl) (fun _ _ _ => rfl) (by decide) (ct_X11_at rfl e2) ?_
  refine L_eq (tgt := 1434) dL_law_1268 (by decide) rfl ?_
  exact kk _ _ hR'
set_option maxRecDepth 100000 in
set_option maxHeartbeats 4000000 in
theorem lc_linkOf {l : Launch} {G : GE} {b L : Nat} {xs : Nat → Int32} {x3 : Int32} {RR : MH → MH → Prop} (hJ : J_linkOf RR) (hi1 : vp_in (x3 + 1) L) (hi2 : vp_in (x3 + 2) L) (hi3 : vp_in (x3 + 3) L) (hi4 : vp_in (x3 + 4) L) (hi5 : vp_in (x3 + 5) L) {hx hm : MH} (hR : RR hx hm) (kk : ∀ hx' hm', RR hx' hm' → LJ l G b L xs 1434 x3 [] hx' hm') : LJ l G b L xs 1273 x3 [] hx hm := by
  refine L_aload (pc' := 1274) (q := 0) dL_law_1273 rfl (by decide) ?_
  refine L_aload (pc' := 1275) (q := 2) dL_law_1274 rfl (by decide) ?_
  refine L_iload (pc' := 1276) dL_law_1275 rfl ?_
  refine L_iconst (v := 1) (pc' := 1277) dL_law_1276 rfl (by decide) ?_
  refine L_iadd (pc' := 1278) dL_law_1277 rfl ?_
  refine L_sld (pc' := 1279) dL_law_1278 rfl hi1 rfl ?_
  refine L_aload (pc' := 1280) (q := 2) dL_law_1279 rfl (by decide) ?_
  refine L_iload (pc' := 1281) dL_law_1280 rfl ?_
  refine L_iconst (v := 2) (pc' := 1282) dL_law_1281 rfl (by decide) ?_
  refine L_iadd (pc' := 1283) dL_law_1282 rfl ?_
  refine L_sld (pc' := 1284) dL_law_1283 rfl hi2 rfl ?_
  obtain ⟨r, hx', hm', e1, e2, hR'⟩ := hJ (xs (x3 + 1).toNatClampNeg) (xs (x3 + 2).toNatClampNeg) hx hm  hR
  refine L_cxI (r, hx') (pc' := 1287) (As := [(xs (x3 + 1).toNatClampNeg), (xs (x3 + 2).toNatClampNeg)]) (rest := []) dL_law_1284 rfl mok_X10_linkOf bm_1188 rfl rfl rfl (Nat.le_of_ble_eq_true rfl) (fun _ _ _ => rfl) (by decide) (ct_X10_linkOf rfl e1) ?_
  refine L_aload (pc' := 1288) (q := 1) dL_law_1287 rfl (by decide) ?_
  refine L_aload (pc' := 1289) (q := 2) dL_law_1288 rfl (by decide) ?_
  refine L_iload (pc' := 1290) dL_law_1289 rfl ?_
  refine L_iconst (v := 1) (pc' := 1291) dL_law_1290 rfl (by decide) ?_
  refine L_iadd (pc' := 1292) dL_law_1291 rfl ?_
  refine L_sld (pc' := 1293) dL_law_1292 rfl hi1 rfl ?_
  refine L_aload (pc' := 1294) (q := 2) dL_law_1293 rfl (by decide) ?_
  refine L_iload (pc' := 1295) dL_law_1294 rfl ?_
  refine L_iconst (v := 2) (pc' := 1296) dL_law_1295 rfl (by decide) ?_
  refine L_iadd (pc' := 1297) dL_law_1296 rfl ?_
  refine L_sld (pc' := 1298) dL_law_1297 rfl hi2 rfl ?_
  refine L_cmI (r, hm') (pc' := 1301) (As := [(xs (x3 + 1).toNatClampNeg), (xs (x3 + 2).toNatClampNeg)]) (rest := [.int r]) dL_law_1298 rfl mok_X11_linkOf bm_1812 rfl rfl rfl (Nat.le_of_ble_eq_true rfl) (fun _ _ _ => rfl) (by decide) (ct_X11_linkOf rfl e2) ?_
  refine L_eq (tgt := 1434) dL_law_1301 (by decide) rfl ?_
  exact kk _ _ hR'
set_option maxRecDepth 100000 in
set_option maxHeartbeats 4000000 in
theorem lc_binding {l : Launch} {G : GE} {b L : Nat} {xs : Nat → Int32} {x3 : Int32} {RR : MH → MH → Prop} (hJ : J_binding RR) (hi1 : vp_in (x3 + 1) L) (hi2 : vp_in (x3 + 2) L) (hi3 : vp_in (x3 + 3) L) (hi4 : vp_in (x3 + 4) L) (hi5 : vp_in (x3 + 5) L) {hx hm : MH} (hR : RR hx hm) (kk : ∀ hx' hm', RR hx' hm' → LJ l G b L xs 1434 x3 [] hx' hm') : LJ l G b L xs 1306 x3 [] hx hm := by
  refine L_aload (pc' := 1307) (q := 0) dL_law_1306 rfl (by decide) ?_
  refine L_aload (pc' := 1308) (q := 2) dL_law_1307 rfl (by decide) ?_
  refine L_iload (pc' := 1309) dL_law_1308 rfl ?_
  refine L_iconst (v := 1) (pc' := 1310) dL_law_1309 rfl (by decide) ?_
  refine L_iadd (pc' := 1311) dL_law_1310 rfl ?_
  refine L_sld (pc' := 1312) dL_law_1311 rfl hi1 rfl ?_
  refine L_aload (pc' := 1313) (q := 2) dL_law_1312 rfl (by decide) ?_
  refine L_iload (pc' := 1314) dL_law_1313 rfl ?_
  refine L_iconst (v := 2) (pc' := 1315) dL_law_1314 rfl (by decide) ?_
  refine L_iadd (pc' := 1316) dL_law_1315 rfl ?_
  refine L_sld (pc' := 1317) dL_law_1316 rfl hi2 rfl ?_
  obtain ⟨r, hx', hm', e1, e2, hR'⟩ := hJ (xs (x3 + 1).toNatClampNeg) (xs (x3 + 2).toNatClampNeg) hx hm  hR
  refine L_cxI (r, hx') (pc' := 1320) (As := [(xs (x3 + 1).toNatClampNeg), (xs (x3 + 2).toNatClampNeg)]) (rest := []) dL_law_1317 rfl mok_X10_binding bm_1192 rfl rfl rfl (Nat.le_of_ble_eq_true rfl) (fun _ _ _ => rfl) (by decide) (ct_X10_binding rfl e1) ?_
  refine L_aload (pc' := 1321) (q := 1) dL_law_1320 rfl (by decide) ?_
  refine L_aload (pc' := 1322) (q := 2) dL_law_1321 rfl (by decide) ?_
  refine L_iload (pc' := 1323) dL_law_1322 rfl ?_
  refine L_iconst (v := 1) (pc' := 1324) dL_law_1323 rfl (by decide) ?_
  refine L_iadd (pc' := 1325) dL_law_1324 rfl ?_
  refine L_sld (pc' := 1326) dL_law_1325 rfl hi1 rfl ?_
  refine L_aload (pc' := 1327) (q := 2) dL_law_1326 rfl (by decide) ?_
  refine L_iload (pc' := 1328) dL_law_1327 rfl ?_
  refine L_iconst (v := 2) (pc' := 1329) dL_law_1328 rfl (by decide) ?_
  refine L_iadd (pc' := 1330) dL_law_1329 rfl ?_
  refine L_sld (pc' := 1331) dL_law_1330 rfl hi2 rfl ?_
  refine L_cmI (r, hm') (pc' := 1334) (As := [(xs (x3 + 1).toNatClampNeg), (xs (x3 + 2).toNatClampNeg)]) (rest := [.int r]) dL_law_1331 rfl mok_X11_binding bm_1816 rfl rfl rfl (Nat.le_of_ble_eq_true rfl) (fun _ _ _ => rfl) (by decide) (ct_X11_binding rfl e2) ?_
  refine L_eq (tgt := 1434) dL_law_1334 (by decide) rfl ?_
  exact kk _ _ hR'
set_option maxRecDepth 100000 in
set_option maxHeartbeats 4000000 in
theorem lc_demandOf {l : Launch} {G : GE} {b L : Nat} {xs : Nat → Int32} {x3 : Int32} {RR : MH → MH → Prop} (hJ : J_demandOf RR) (hi1 : vp_in (x3 + 1) L) (hi2 : vp_in (x3 + 2) L) (hi3 : vp_in (x3 + 3) L) (hi4 : vp_in (x3 + 4) L) (hi5 : vp_in (x3 + 5) L) {hx hm : MH} (hR : RR hx hm) (kk : ∀ hx' hm', RR hx' hm' → LJ l G b L xs 1434 x3 [] hx' hm') : LJ l G b L xs 1339 x3 [] hx hm := by
  refine L_aload (pc' := 1340) (q := 0) dL_law_1339 rfl (by decide) ?_
  refine L_aload (pc' := 1341) (q := 2) dL_law_1340 rfl (by decide) ?_
  refine L_iload (pc' := 1342) dL_law_1341 rfl ?_
  refine L_iconst (v := 1) (pc' := 1343) dL_law_1342 rfl (by decide) ?_
  refine L_iadd (pc' := 1344) dL_law_1343 rfl ?_
  refine L_sld (pc' := 1345) dL_law_1344 rfl hi1 rfl ?_
  refine L_aload (pc' := 1346) (q := 2) dL_law_1345 rfl (by decide) ?_
  refine L_iload (pc' := 1347) dL_law_1346 rfl ?_
  refine L_iconst (v := 2) (pc' := 1348) dL_law_1347 rfl (by decide) ?_
  refine L_iadd (pc' := 1349) dL_law_1348 rfl ?_
  refine L_sld (pc' := 1350) dL_law_1349 rfl hi2 rfl ?_
  obtain ⟨r, hx', hm', e1, e2, hR'⟩ := hJ (xs (x3 + 1).toNatClampNeg) (xs (x3 + 2).toNatClampNeg) hx hm  hR
  refine L_cxI (r, hx') (pc' := 1353) (As := [(xs (x3 + 1).toNatClampNeg), (xs (x3 + 2).toNatClampNeg)]) (rest := []) dL_law_1350 rfl mok_X10_demandOf bm_1198 rfl rfl rfl (Nat.le_of_ble_eq_true rfl) (fun _ _ _ => rfl) (by decide) (ct_X10_demandOf rfl e1) ?_
  refine L_aload (pc' := 1354) (q := 1) dL_law_1353 rfl (by decide) ?_
  refine L_aload (pc' := 1355) (q := 2) dL_law_1354 rfl (by decide) ?_
  refine L_iload (pc' := 1356) dL_law_1355 rfl ?_
  refine L_iconst (v := 1) (pc' := 1357) dL_law_1356 rfl (by decide) ?_
  refine L_iadd (pc' := 1358) dL_law_1357 rfl ?_
  refine L_sld (pc' := 1359) dL_law_1358 rfl hi1 rfl ?_
  refine L_aload (pc' := 1360) (q := 2) dL_law_1359 rfl (by decide) ?_
  refine L_iload (pc' := 1361) dL_law_1360 rfl ?_
  refine L_iconst (v := 2) (pc' := 1362) dL_law_1361 rfl (by decide) ?_
  refine L_iadd (pc' := 1363) dL_law_1362 rfl ?_
  refine L_sld (pc' := 1364) dL_law_1363 rfl hi2 rfl ?_
  refine L_cmI (r, hm') (pc' := 1367) (As := [(xs (x3 + 1).toNatClampNeg), (xs (x3 + 2).toNatClampNeg)]) (rest := [.int r]) dL_law_1364 rfl mok_X11_demandOf bm_1820 rfl rfl rfl (Nat.le_of_ble_eq_true rfl) (fun _ _ _ => rfl) (by decide) (ct_X11_demandOf rfl e2) ?_
  refine L_eq (tgt := 1434) dL_law_1367 (by decide) rfl ?_
  exact kk _ _ hR'
set_option maxRecDepth 100000 in
set_option maxHeartbeats 4000000 in
theorem lc_image {l : Launch} {G : GE} {b L : Nat} {xs : Nat → Int32} {x3 : Int32} {RR : MH → MH → Prop} (hJ : J_image RR) (hi1 : vp_in (x3 + 1) L) (hi2 : vp_in (x3 + 2) L) (hi3 : vp_in (x3 + 3) L) (hi4 : vp_in (x3 + 4) L) (hi5 : vp_in (x3 + 5) L) {hx hm : MH} (hR : RR hx hm) (kk : ∀ hx' hm', RR hx' hm' → LJ l G b L xs 1434 x3 [] hx' hm') : LJ l G b L xs 1372 x3 [] hx hm := by
  refine L_aload (pc' := 1373) (q := 0) dL_law_1372 rfl (by decide) ?_
  refine L_aload (pc' := 1374) (q := 2) dL_law_1373 rfl (by decide) ?_
  refine L_iload (pc' := 1375) dL_law_1374 rfl ?_
  refine L_iconst (v := 1) (pc' := 1376) dL_law_1375 rfl (by decide) ?_
  refine L_iadd (pc' := 1377) dL_law_1376 rfl ?_
  refine L_sld (pc' := 1378) dL_law_1377 rfl hi1 rfl ?_
  refine L_eq0 (tgt := 1385) (pc' := 1381) dL_law_1378 (by decide) rfl (fun cb1 => ?_) (fun cb1 => ?_)
  ·
    refine L_iconst (v := 0) (pc' := 1386) dL_law_1385 rfl (by decide) ?_
    obtain ⟨r, hx', hm', e1, e2, hR'⟩ := hJ 0 hx hm (by decide) hR
    refine L_cxI (r, hx') (pc' := 1389) (As := [0]) (rest := []) dL_law_1386 rfl mok_X10_image bm_1202 rfl rfl rfl (Nat.le_of_ble_eq_true rfl) (fun _ _ _ => rfl) (by decide) (ct_X10_image rfl e1) ?_
    refine L_aload (pc' := 1390) (q := 1) dL_law_1389 rfl (by decide) ?_
    refine L_aload (pc' := 1391) (q := 2) dL_law_1390 rfl (by decide) ?_
    refine L_iload (pc' := 1392) dL_law_1391 rfl ?_
    refine L_iconst (v := 1) (pc' := 1393) dL_law_1392 rfl (by decide) ?_
    refine L_iadd (pc' := 1394) dL_law_1393 rfl ?_
    refine L_sld (pc' := 1395) dL_law_1394 rfl hi1 rfl ?_
    refine L_eq0 (tgt := 1402) (pc' := 1398) dL_law_1395 (by decide) rfl (fun _ => ?_) (fun q => absurd cb1 q)
    refine L_iconst (v := 0) (pc' := 1403) dL_law_1402 rfl (by decide) ?_
    refine L_cmI (r, hm') (pc' := 1406) (As := [0]) (rest := [.int r]) dL_law_1403 rfl mok_X11_image bm_1824 rfl rfl rfl (Nat.le_of_ble_eq_true rfl) (fun _ _ _ => rfl) (by decide) (ct_X11_image rfl e2) ?_
    refine L_eq (tgt := 1434) dL_law_1406 (by decide) rfl ?_
    exact kk _ _ hR'
  ·
    refine L_iconst (v := 1) (pc' := 1382) dL_law_1381 rfl (by decide) ?_
    refine L_goto (tgt := 1386) dL_law_1382 (by decide) ?_
    obtain ⟨r, hx', hm', e1, e2, hR'⟩ := hJ 1 hx hm (by decide) hR
    refine L_cxI (r, hx') (pc' := 1389) (As := [1]) (rest := []) dL_law_1386 rfl mok_X10_image bm_1202 rfl rfl rfl (Nat.le_of_ble_eq_true rfl) (fun _ _ _ => rfl) (by decide) (ct_X10_image rfl e1) ?_
    refine L_aload (pc' := 1390) (q := 1) dL_law_1389 rfl (by decide) ?_
    refine L_aload (pc' := 1391) (q := 2) dL_law_1390 rfl (by decide) ?_
    refine L_iload (pc' := 1392) dL_law_1391 rfl ?_
    refine L_iconst (v := 1) (pc' := 1393) dL_law_1392 rfl (by decide) ?_
    refine L_iadd (pc' := 1394) dL_law_1393 rfl ?_
    refine L_sld (pc' := 1395) dL_law_1394 rfl hi1 rfl ?_
    refine L_eq0 (tgt := 1402) (pc' := 1398) dL_law_1395 (by decide) rfl (fun q => absurd q cb1) (fun _ => ?_)
    refine L_iconst (v := 1) (pc' := 1399) dL_law_1398 rfl (by decide) ?_
    refine L_goto (tgt := 1403) dL_law_1399 (by decide) ?_
    refine L_cmI (r, hm') (pc' := 1406) (As := [1]) (rest := [.int r]) dL_law_1403 rfl mok_X11_image bm_1824 rfl rfl rfl (Nat.le_of_ble_eq_true rfl) (fun _ _ _ => rfl) (by decide) (ct_X11_image rfl e2) ?_
    refine L_eq (tgt := 1434) dL_law_1406 (by decide) rfl ?_
    exact kk _ _ hR'
set_option maxRecDepth 100000 in
set_option maxHeartbeats 4000000 in
theorem lc_look {l : Launch} {G : GE} {b L : Nat} {xs : Nat → Int32} {x3 : Int32} {RR : MH → MH → Prop} (hJ : J_look RR) (hi1 : vp_in (x3 + 1) L) (hi2 : vp_in (x3 + 2) L) (hi3 : vp_in (x3 + 3) L) (hi4 : vp_in (x3 + 4) L) (hi5 : vp_in (x3 + 5) L) {hx hm : MH} (hR : RR hx hm) (kk : ∀ hx' hm', RR hx' hm' → LJ l G b L xs 1434 x3 [] hx' hm') : LJ l G b L xs 1411 x3 [] hx hm := by
  refine L_aload (pc' := 1412) (q := 0) dL_law_1411 rfl (by decide) ?_
  refine L_aload (pc' := 1413) (q := 2) dL_law_1412 rfl (by decide) ?_
  refine L_iload (pc' := 1414) dL_law_1413 rfl ?_
  refine L_iconst (v := 1) (pc' := 1415) dL_law_1414 rfl (by decide) ?_
  refine L_iadd (pc' := 1416) dL_law_1415 rfl ?_
  refine L_sld (pc' := 1417) dL_law_1416 rfl hi1 rfl ?_
  obtain ⟨r, hx', hm', e1, e2, hR'⟩ := hJ (xs (x3 + 1).toNatClampNeg) hx hm  hR
  refine L_cxI (r, hx') (pc' := 1420) (As := [(xs (x3 + 1).toNatClampNeg)]) (rest := []) dL_law_1417 rfl mok_X10_look bm_1207 rfl rfl rfl (Nat.le_of_ble_eq_true rfl) (fun _ _ _ => rfl) (by decide) (ct_X10_look rfl e1) ?_
  refine L_aload (pc' := 1421) (q := 1) dL_law_1420 rfl (by decide) ?_
  refine L_aload (pc' := 1422) (q := 2) dL_law_1421 rfl (by decide) ?_
  refine L_iload (pc' := 1423) dL_law_1422 rfl ?_
  refine L_iconst (v := 1) (pc' := 1424) dL_law_1423 rfl (by decide) ?_
  refine L_iadd (pc' := 1425) dL_law_1424 rfl ?_
  refine L_sld (pc' := 1426) dL_law_1425 rfl hi1 rfl ?_
  refine L_cmI (r, hm') (pc' := 1429) (As := [(xs (x3 + 1).toNatClampNeg)]) (rest := [.int r]) dL_law_1426 rfl mok_X11_look bm_1828 rfl rfl rfl (Nat.le_of_ble_eq_true rfl) (fun _ _ _ => rfl) (by decide) (ct_X11_look rfl e2) ?_
  refine L_eq (tgt := 1434) dL_law_1429 (by decide) rfl ?_
  exact kk _ _ hR'
