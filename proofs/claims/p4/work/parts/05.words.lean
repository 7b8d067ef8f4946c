theorem zt_r {w : Cond} (h : w ∈ tables_1) (g : goodWord w = true) : w ∈ zG := zG_of (List.mem_append_right _ h) g
theorem zm1 {i : Nat} {w : Cond} (h : tables_1_1[i]? = some w) (g : goodWord w = true) : w ∈ zG := zt_r (List.mem_append_left _ (List.mem_of_getElem? h)) g
theorem zm2 {i : Nat} {w : Cond} (h : tables_1_2[i]? = some w) (g : goodWord w = true) : w ∈ zG := zt_r (List.mem_append_right _ (List.mem_append_left _ (List.mem_of_getElem? h))) g
theorem zm3 {i : Nat} {w : Cond} (h : tables_1_3[i]? = some w) (g : goodWord w = true) : w ∈ zG := zt_r (List.mem_append_right _ (List.mem_append_right _ (List.mem_append_left _ (List.mem_of_getElem? h)))) g
theorem zm4 {i : Nat} {w : Cond} (h : tables_1_4[i]? = some w) (g : goodWord w = true) : w ∈ zG := zt_r (List.mem_append_right _ (List.mem_append_right _ (List.mem_append_right _ (List.mem_append_left _ (List.mem_of_getElem? h))))) g
theorem zm5 {i : Nat} {w : Cond} (h : tables_1_5[i]? = some w) (g : goodWord w = true) : w ∈ zG := zt_r (List.mem_append_right _ (List.mem_append_right _ (List.mem_append_right _ (List.mem_append_right _ (List.mem_append_left _ (List.mem_of_getElem? h)))))) g
theorem zm6 {i : Nat} {w : Cond} (h : tables_1_6[i]? = some w) (g : goodWord w = true) : w ∈ zG := zt_r (List.mem_append_right _ (List.mem_append_right _ (List.mem_append_right _ (List.mem_append_right _ (List.mem_append_right _ (List.mem_append_left _ (List.mem_of_getElem? h))))))) g
theorem zm7 {i : Nat} {w : Cond} (h : tables_1_7[i]? = some w) (g : goodWord w = true) : w ∈ zG := zt_r (List.mem_append_right _ (List.mem_append_right _ (List.mem_append_right _ (List.mem_append_right _ (List.mem_append_right _ (List.mem_append_right _ (List.mem_of_getElem? h))))))) g
theorem zh1 {i : Nat} {w : Cond} (h : tables_1_1[i]? = some w) (g : zNb w = true) : w ∈ zH := List.mem_filter.mpr ⟨List.mem_append_left _ (List.mem_of_getElem? h), g⟩
theorem zh2 {i : Nat} {w : Cond} (h : tables_1_2[i]? = some w) (g : zNb w = true) : w ∈ zH := List.mem_filter.mpr ⟨List.mem_append_right _ (List.mem_append_left _ (List.mem_of_getElem? h)), g⟩
theorem zh3 {i : Nat} {w : Cond} (h : tables_1_3[i]? = some w) (g : zNb w = true) : w ∈ zH := List.mem_filter.mpr ⟨List.mem_append_right _ (List.mem_append_right _ (List.mem_append_left _ (List.mem_of_getElem? h))), g⟩
theorem zh4 {i : Nat} {w : Cond} (h : tables_1_4[i]? = some w) (g : zNb w = true) : w ∈ zH := List.mem_filter.mpr ⟨List.mem_append_right _ (List.mem_append_right _ (List.mem_append_right _ (List.mem_append_left _ (List.mem_of_getElem? h)))), g⟩
theorem zh5 {i : Nat} {w : Cond} (h : tables_1_5[i]? = some w) (g : zNb w = true) : w ∈ zH := List.mem_filter.mpr ⟨List.mem_append_right _ (List.mem_append_right _ (List.mem_append_right _ (List.mem_append_right _ (List.mem_append_left _ (List.mem_of_getElem? h))))), g⟩
theorem zh6 {i : Nat} {w : Cond} (h : tables_1_6[i]? = some w) (g : zNb w = true) : w ∈ zH := List.mem_filter.mpr ⟨List.mem_append_right _ (List.mem_append_right _ (List.mem_append_right _ (List.mem_append_right _ (List.mem_append_right _ (List.mem_append_left _ (List.mem_of_getElem? h)))))), g⟩
theorem zh7 {i : Nat} {w : Cond} (h : tables_1_7[i]? = some w) (g : zNb w = true) : w ∈ zH := List.mem_filter.mpr ⟨List.mem_append_right _ (List.mem_append_right _ (List.mem_append_right _ (List.mem_append_right _ (List.mem_append_right _ (List.mem_append_right _ (List.mem_of_getElem? h)))))), g⟩
theorem zms {w : Cond} (h : w ∈ k2_sels lw_privs) (g : goodWord w = true) : w ∈ zG := zG_of (List.mem_append_left _ h) g
theorem zinX0 : ∀ w ∈ u_ws RX0 TX0 2, w ∈ zG := List.forall_mem_cons.mpr ⟨zm1 (i := 227) rfl rfl, List.forall_mem_cons.mpr ⟨zm1 (i := 229) rfl rfl, fun _ h => absurd h List.not_mem_nil⟩⟩
theorem zkX0 : zK 0 RX0 TX0 2 tyX0 := ⟨rfl, zinX0, tyX0_ok, nmX0⟩
theorem zinX1 : ∀ w ∈ u_ws RX1 TX1 8, w ∈ zG := List.forall_mem_cons.mpr ⟨zm1 (i := 96) rfl rfl, List.forall_mem_cons.mpr ⟨zm1 (i := 98) rfl rfl, List.forall_mem_cons.mpr ⟨zm1 (i := 100) rfl rfl, List.forall_mem_cons.mpr ⟨zm1 (i := 102) rfl rfl, List.forall_mem_cons.mpr ⟨zm1 (i := 104) rfl rfl, List.forall_mem_cons.mpr ⟨zm1 (i := 106) rfl rfl, List.forall_mem_cons.mpr ⟨zm1 (i := 108) rfl rfl, List.forall_mem_cons.mpr ⟨zm1 (i := 110) rfl rfl, fun _ h => absurd h List.not_mem_nil⟩⟩⟩⟩⟩⟩⟩⟩
theorem zkX1 : zK 1 RX1 TX1 8 tyX1 := ⟨rfl, zinX1, tyX1_ok, nmX1⟩
theorem zinX2 : ∀ w ∈ u_ws RX2 TX2 3, w ∈ zG := List.forall_mem_cons.mpr ⟨zm1 (i := 212) rfl rfl, List.forall_mem_cons.mpr ⟨zm1 (i := 214) rfl rfl, List.forall_mem_cons.mpr ⟨zm1 (i := 216) rfl rfl, fun _ h => absurd h List.not_mem_nil⟩⟩⟩
theorem zkX2 : zK 2 RX2 TX2 3 tyX2 := ⟨rfl, zinX2, tyX2_ok, nmX2⟩
theorem zinX3 : ∀ w ∈ u_ws RX3 TX3 2, w ∈ zG := List.forall_mem_cons.mpr ⟨zm1 (i := 165) rfl rfl, List.forall_mem_cons.mpr ⟨zm1 (i := 167) rfl rfl, fun _ h => absurd h List.not_mem_nil⟩⟩
theorem zkX3 : zK 3 RX3 TX3 2 tyX3 := ⟨rfl, zinX3, tyX3_ok, nmX3⟩
theorem zinX4 : ∀ w ∈ u_ws RX4 TX4 4, w ∈ zG := List.forall_mem_cons.mpr ⟨zm2 (i := 9) rfl rfl, List.forall_mem_cons.mpr ⟨zm2 (i := 11) rfl rfl, List.forall_mem_cons.mpr ⟨zm2 (i := 13) rfl rfl, List.forall_mem_cons.mpr ⟨zm2 (i := 15) rfl rfl, fun _ h => absurd h List.not_mem_nil⟩⟩⟩⟩
theorem zkX4 : zK 4 RX4 TX4 4 tyX4 := ⟨rfl, zinX4, tyX4_ok, nmX4⟩
theorem zinX5 : ∀ w ∈ u_ws RX5 TX5 3, w ∈ zG := List.forall_mem_cons.mpr ⟨zm5 (i := 31) rfl rfl, List.forall_mem_cons.mpr ⟨zm5 (i := 33) rfl rfl, List.forall_mem_cons.mpr ⟨zm5 (i := 35) rfl rfl, fun _ h => absurd h List.not_mem_nil⟩⟩⟩
theorem zkX5 : zK 5 RX5 TX5 3 tyX5 := ⟨rfl, zinX5, tyX5_ok, nmX5⟩
theorem zinX6 : ∀ w ∈ u_ws RX6 TX6 5, w ∈ zG := List.forall_mem_cons.mpr ⟨zm2 (i := 34) rfl rfl, List.forall_mem_cons.mpr ⟨zm2 (i := 36) rfl rfl, List.forall_mem_cons.mpr ⟨zm2 (i := 38) rfl rfl, List.forall_mem_cons.mpr ⟨zm2 (i := 40) rfl rfl, List.forall_mem_cons.mpr ⟨zm2 (i := 42) rfl rfl, fun _ h => absurd h List.not_mem_nil⟩⟩⟩⟩⟩
theorem zkX6 : zK 6 RX6 TX6 5 tyX6 := ⟨rfl, zinX6, tyX6_ok, nmX6⟩
theorem zinX7 : ∀ w ∈ u_ws RX7 TX7 6, w ∈ zG := List.forall_mem_cons.mpr ⟨zm1 (i := 187) rfl rfl, List.forall_mem_cons.mpr ⟨zm1 (i := 189) rfl rfl, List.forall_mem_cons.mpr ⟨zm1 (i := 191) rfl rfl, List.forall_mem_cons.mpr ⟨zm1 (i := 193) rfl rfl, List.forall_mem_cons.mpr ⟨zm1 (i := 195) rfl rfl, List.forall_mem_cons.mpr ⟨zm1 (i := 197) rfl rfl, fun _ h => absurd h List.not_mem_nil⟩⟩⟩⟩⟩⟩
theorem zkX7 : zK 7 RX7 TX7 6 tyX7 := ⟨rfl, zinX7, tyX7_ok, nmX7⟩
theorem zinX8 : ∀ w ∈ u_ws RX8 TX8 4, w ∈ zG := List.forall_mem_cons.mpr ⟨zm1 (i := 55) rfl rfl, List.forall_mem_cons.mpr ⟨zm1 (i := 57) rfl rfl, List.forall_mem_cons.mpr ⟨zm1 (i := 59) rfl rfl, List.forall_mem_cons.mpr ⟨zm1 (i := 61) rfl rfl, fun _ h => absurd h List.not_mem_nil⟩⟩⟩⟩
theorem zkX8 : zK 8 RX8 TX8 4 tyX8 := ⟨rfl, zinX8, tyX8_ok, nmX8⟩
theorem zinX9 : ∀ w ∈ u_ws RX9 TX9 10, w ∈ zG := List.forall_mem_cons.mpr ⟨zm1 (i := 125) rfl rfl, List.forall_mem_cons.mpr ⟨zm1 (i := 127) rfl rfl, List.forall_mem_cons.mpr ⟨zm1 (i := 129) rfl rfl, List.forall_mem_cons.mpr ⟨zm1 (i := 131) rfl rfl, List.forall_mem_cons.mpr ⟨zm1 (i := 133) rfl rfl, List.forall_mem_cons.mpr ⟨zm1 (i := 135) rfl rfl, List.forall_mem_cons.mpr ⟨zm1 (i := 137) rfl rfl, List.forall_mem_cons.mpr ⟨zm1 (i := 139) rfl rfl, List.forall_mem_cons.mpr ⟨zm1 (i := 141) rfl rfl, List.forall_mem_cons.mpr ⟨zm1 (i := 143) rfl rfl, fun _ h => absurd h List.not_mem_nil⟩⟩⟩⟩⟩⟩⟩⟩⟩⟩
theorem zkX9 : zK 9 RX9 TX9 10 tyX9 := ⟨rfl, zinX9, tyX9_ok, nmX9⟩
theorem zinX10 : ∀ w ∈ u_ws RX10 TX10 10, w ∈ zG := List.forall_mem_cons.mpr ⟨zm2 (i := 63) rfl rfl, List.forall_mem_cons.mpr ⟨zm2 (i := 65) rfl rfl, List.forall_mem_cons.mpr ⟨zm2 (i := 67) rfl rfl, List.forall_mem_cons.mpr ⟨zm2 (i := 69) rfl rfl, List.forall_mem_cons.mpr ⟨zm2 (i := 71) rfl rfl, List.forall_mem_cons.mpr ⟨zm2 (i := 73) rfl rfl, List.forall_mem_cons.mpr ⟨zm2 (i := 75) rfl rfl, List.forall_mem_cons.mpr ⟨zm2 (i := 77) rfl rfl, List.forall_mem_cons.mpr ⟨zm2 (i := 79) rfl rfl, List.forall_mem_cons.mpr ⟨zm2 (i := 81) rfl rfl, fun _ h => absurd h List.not_mem_nil⟩⟩⟩⟩⟩⟩⟩⟩⟩⟩
theorem zkX10 : zK 10 RX10 TX10 10 tyX10 := ⟨rfl, zinX10, tyX10_ok, nmX10⟩
theorem zinX11 : ∀ w ∈ u_ws RX11 TX11 31, w ∈ zG := List.forall_mem_cons.mpr ⟨zm5 (i := 135) rfl rfl, List.forall_mem_cons.mpr ⟨zm5 (i := 137) rfl rfl, List.forall_mem_cons.mpr ⟨zm5 (i := 139) rfl rfl, List.forall_mem_cons.mpr ⟨zm5 (i := 141) rfl rfl, List.forall_mem_cons.mpr ⟨zm5 (i := 143) rfl rfl, List.forall_mem_cons.mpr ⟨zm5 (i := 145) rfl rfl, List.forall_mem_cons.mpr ⟨zm5 (i := 147) rfl rfl, List.forall_mem_cons.mpr ⟨zm5 (i := 149) rfl rfl, List.forall_mem_cons.mpr ⟨zm5 (i := 151) rfl rfl, List.forall_mem_cons.mpr ⟨zm5 (i := 153) rfl rfl, List.forall_mem_cons.mpr ⟨zm5 (i := 155) rfl rfl, List.forall_mem_cons.mpr ⟨zm5 (i := 157) rfl rfl, List.forall_mem_cons.mpr ⟨zm5 (i := 159) rfl rfl, List.forall_mem_cons.mpr ⟨zm5 (i := 161) rfl rfl, List.forall_mem_cons.mpr ⟨zm5 (i := 163) rfl rfl, List.forall_mem_cons.mpr ⟨zm5 (i := 165) rfl rfl, List.forall_mem_cons.mpr ⟨zm5 (i := 167) rfl rfl, List.forall_mem_cons.mpr ⟨zm5 (i := 169) rfl rfl, List.forall_mem_cons.mpr ⟨zm5 (i := 171) rfl rfl, List.forall_mem_cons.mpr ⟨zm5 (i := 173) rfl rfl, List.forall_mem_cons.mpr ⟨zm5 (i := 175) rfl rfl, List.forall_mem_cons.mpr ⟨zm5 (i := 177) rfl rfl, List.forall_mem_cons.mpr ⟨zm5 (i := 179) rfl rfl, List.forall_mem_cons.mpr ⟨zm5 (i := 181) rfl rfl, List.forall_mem_cons.mpr ⟨zm5 (i := 183) rfl rfl, List.forall_mem_cons.mpr ⟨zm5 (i := 185) rfl rfl, List.forall_mem_cons.mpr ⟨zm5 (i := 187) rfl rfl, List.forall_mem_cons.mpr ⟨zm5 (i := 189) rfl rfl, List.forall_mem_cons.mpr ⟨zm5 (i := 191) rfl rfl, List.forall_mem_cons.mpr ⟨zm5 (i := 193) rfl rfl, List.forall_mem_cons.mpr ⟨zm5 (i := 195) rfl rfl, fun _ h => absurd h List.not_mem_nil⟩⟩⟩⟩⟩⟩⟩⟩⟩⟩⟩⟩⟩⟩⟩⟩⟩⟩⟩⟩⟩⟩⟩⟩⟩⟩⟩⟩⟩⟩⟩
theorem zkX11 : zK 11 RX11 TX11 31 tyX11 := ⟨rfl, zinX11, tyX11_ok, nmX11⟩
theorem zlX10_10 : zL RX10 10 TX10 0 := Or.inl (zm2 (i := 53) rfl rfl)
theorem zlX10_19 : zL RX10 19 TX10 1 := Or.inl (zm2 (i := 54) rfl rfl)
theorem zlX10_26 : zL RX10 26 TX10 2 := Or.inl (zm2 (i := 55) rfl rfl)
theorem zlX10_33 : zL RX10 33 TX10 3 := Or.inl (zm2 (i := 56) rfl rfl)
theorem zlX10_37 : zL RX10 37 TX10 4 := Or.inl (zm2 (i := 57) rfl rfl)
theorem zlX10_41 : zL RX10 41 TX10 5 := Or.inl (zm2 (i := 58) rfl rfl)
theorem zlX10_48 : zL RX10 48 TX10 6 := Or.inl (zm2 (i := 59) rfl rfl)
theorem zlX10_55 : zL RX10 55 TX10 7 := Or.inl (zm2 (i := 60) rfl rfl)
theorem zlX10_62 : zL RX10 62 TX10 8 := Or.inl (zm2 (i := 61) rfl rfl)
theorem zlX10_66 : zL RX10 66 TX10 9 := Or.inl (zm2 (i := 62) rfl rfl)
theorem zlX0_9 : zL RX0 9 TX0 0 := Or.inl (zm1 (i := 225) rfl rfl)
theorem zlX0_15 : zL RX0 15 TX0 1 := Or.inl (zm1 (i := 226) rfl rfl)
theorem zlX1_9 : zL RX1 9 TX1 0 := Or.inl (zm1 (i := 67) rfl rfl)
theorem zlX1_15 : zL RX1 15 TX1 1 := Or.inl (zm1 (i := 72) rfl rfl)
theorem zlX1_18 : zL RX1 18 TX1 2 := Or.inl (zm1 (i := 77) rfl rfl)
theorem zlX1_22 : zL RX1 22 TX1 3 := Or.inl (zm1 (i := 81) rfl rfl)
theorem zlX1_25 : zL RX1 25 TX1 4 := Or.inl (zm1 (i := 85) rfl rfl)
theorem zlX1_28 : zL RX1 28 TX1 5 := Or.inl (zm1 (i := 88) rfl rfl)
theorem zlX1_35 : zL RX1 35 TX1 6 := Or.inl (zm1 (i := 91) rfl rfl)
theorem zlX1_39 : zL RX1 39 TX1 7 := Or.inl (zm1 (i := 94) rfl rfl)
theorem zlX2_11 : zL RX2 11 TX2 0 := Or.inl (zm1 (i := 209) rfl rfl)
theorem zlX2_17 : zL RX2 17 TX2 1 := Or.inl (zm1 (i := 210) rfl rfl)
theorem zlX2_21 : zL RX2 21 TX2 2 := Or.inl (zm1 (i := 211) rfl rfl)
theorem zlX3_9 : zL RX3 9 TX3 0 := Or.inl (zm1 (i := 160) rfl rfl)
theorem zlX3_15 : zL RX3 15 TX3 1 := Or.inl (zm1 (i := 164) rfl rfl)
theorem zlX4_12 : zL RX4 12 TX4 0 := Or.inl (zm2 (i := 1) rfl rfl)
theorem zlX4_18 : zL RX4 18 TX4 1 := Or.inl (zm2 (i := 3) rfl rfl)
theorem zlX4_22 : zL RX4 22 TX4 2 := Or.inl (zm2 (i := 5) rfl rfl)
theorem zlX4_25 : zL RX4 25 TX4 3 := Or.inl (zm2 (i := 7) rfl rfl)
theorem zlX5_7 : zL RX5 7 TX5 0 := Or.inl (zm5 (i := 25) rfl rfl)
theorem zlX5_13 : zL RX5 13 TX5 1 := Or.inl (zm5 (i := 27) rfl rfl)
theorem zlX5_16 : zL RX5 16 TX5 2 := Or.inl (zm5 (i := 29) rfl rfl)
theorem zlX6_11 : zL RX6 11 TX6 0 := Or.inl (zm2 (i := 29) rfl rfl)
theorem zlX6_19 : zL RX6 19 TX6 1 := Or.inl (zm2 (i := 30) rfl rfl)
theorem zlX6_22 : zL RX6 22 TX6 2 := Or.inl (zm2 (i := 31) rfl rfl)
theorem zlX6_25 : zL RX6 25 TX6 3 := Or.inl (zm2 (i := 32) rfl rfl)
theorem zlX6_29 : zL RX6 29 TX6 4 := Or.inl (zm2 (i := 33) rfl rfl)
theorem zlX7_12 : zL RX7 12 TX7 0 := Or.inl (zm1 (i := 170) rfl rfl)
theorem zlX7_18 : zL RX7 18 TX7 1 := Or.inl (zm1 (i := 174) rfl rfl)
theorem zlX7_22 : zL RX7 22 TX7 2 := Or.inl (zm1 (i := 176) rfl rfl)
theorem zlX7_25 : zL RX7 25 TX7 3 := Or.inl (zm1 (i := 180) rfl rfl)
theorem zlX7_28 : zL RX7 28 TX7 4 := Or.inl (zm1 (i := 184) rfl rfl)
theorem zlX7_31 : zL RX7 31 TX7 5 := Or.inl (zm1 (i := 186) rfl rfl)
theorem zlX8_9 : zL RX8 9 TX8 0 := Or.inl (zm1 (i := 51) rfl rfl)
theorem zlX8_15 : zL RX8 15 TX8 1 := Or.inl (zm1 (i := 52) rfl rfl)
theorem zlX8_18 : zL RX8 18 TX8 2 := Or.inl (zm1 (i := 53) rfl rfl)
theorem zlX8_21 : zL RX8 21 TX8 3 := Or.inl (zm1 (i := 54) rfl rfl)
theorem zlX9_9 : zL RX9 9 TX9 0 := Or.inl (zm1 (i := 113) rfl rfl)
theorem zlX9_15 : zL RX9 15 TX9 1 := Or.inl (zm1 (i := 114) rfl rfl)
theorem zlX9_22 : zL RX9 22 TX9 2 := Or.inl (zm1 (i := 116) rfl rfl)
theorem zlX9_26 : zL RX9 26 TX9 3 := Or.inl (zm1 (i := 117) rfl rfl)
theorem zlX9_29 : zL RX9 29 TX9 4 := Or.inl (zm1 (i := 118) rfl rfl)
theorem zlX9_32 : zL RX9 32 TX9 5 := Or.inl (zm1 (i := 120) rfl rfl)
theorem zlX9_35 : zL RX9 35 TX9 6 := Or.inl (zm1 (i := 121) rfl rfl)
theorem zlX9_38 : zL RX9 38 TX9 7 := Or.inl (zm1 (i := 122) rfl rfl)
theorem zlX9_41 : zL RX9 41 TX9 8 := Or.inl (zm1 (i := 123) rfl rfl)
theorem zlX9_44 : zL RX9 44 TX9 9 := Or.inl (zm1 (i := 124) rfl rfl)
theorem zlX11_7 : zL RX11 7 TX11 1 := Or.inl (zm5 (i := 105) rfl rfl)
theorem zlX11_13 : zL RX11 13 TX11 2 := Or.inl (zm5 (i := 106) rfl rfl)
theorem zlX11_16 : zL RX11 16 TX11 3 := Or.inl (zm5 (i := 107) rfl rfl)
theorem zlX11_19 : zL RX11 19 TX11 4 := Or.inl (zm5 (i := 108) rfl rfl)
theorem zlX11_22 : zL RX11 22 TX11 5 := Or.inl (zm5 (i := 109) rfl rfl)
theorem zlX11_25 : zL RX11 25 TX11 6 := Or.inl (zm5 (i := 110) rfl rfl)
theorem zlX11_28 : zL RX11 28 TX11 7 := Or.inl (zm5 (i := 111) rfl rfl)
theorem zlX11_31 : zL RX11 31 TX11 8 := Or.inl (zm5 (i := 112) rfl rfl)
theorem zlX11_34 : zL RX11 34 TX11 9 := Or.inl (zm5 (i := 113) rfl rfl)
theorem zlX11_38 : zL RX11 38 TX11 17 := Or.inl (zm5 (i := 121) rfl rfl)
theorem zlX11_42 : zL RX11 42 TX11 20 := Or.inl (zm5 (i := 124) rfl rfl)
theorem zlX11_46 : zL RX11 46 TX11 21 := Or.inl (zm5 (i := 125) rfl rfl)
theorem zlX11_49 : zL RX11 49 TX11 22 := Or.inl (zm5 (i := 126) rfl rfl)
theorem zlX11_52 : zL RX11 52 TX11 23 := Or.inl (zm5 (i := 127) rfl rfl)
theorem zlX11_55 : zL RX11 55 TX11 24 := Or.inl (zm5 (i := 128) rfl rfl)
theorem zlX11_58 : zL RX11 58 TX11 26 := Or.inl (zm5 (i := 130) rfl rfl)
theorem zlX11_61 : zL RX11 61 TX11 28 := Or.inl (zm5 (i := 132) rfl rfl)
theorem zlX11_64 : zL RX11 64 TX11 29 := Or.inl (zm5 (i := 133) rfl rfl)
theorem zlX11_67 : zL RX11 67 TX11 30 := Or.inl (zm5 (i := 134) rfl rfl)
theorem zlX11_80 : zL RX11 80 TX11 0 := Or.inl (zm5 (i := 104) rfl rfl)
theorem zlX11_87 : zL RX11 87 TX11 10 := Or.inl (zm5 (i := 114) rfl rfl)
theorem zlX11_94 : zL RX11 94 TX11 11 := Or.inl (zm5 (i := 115) rfl rfl)
theorem zlX11_97 : zL RX11 97 TX11 13 := Or.inl (zm5 (i := 117) rfl rfl)
theorem zlX11_104 : zL RX11 104 TX11 12 := Or.inl (zm5 (i := 116) rfl rfl)
theorem zlX11_107 : zL RX11 107 TX11 15 := Or.inl (zm5 (i := 119) rfl rfl)
theorem zlX11_110 : zL RX11 110 TX11 14 := Or.inl (zm5 (i := 118) rfl rfl)
theorem zlX11_126 : zL RX11 126 TX11 16 := Or.inl (zm5 (i := 120) rfl rfl)
theorem zlX11_133 : zL RX11 133 TX11 18 := Or.inl (zm5 (i := 122) rfl rfl)
theorem zlX11_160 : zL RX11 160 TX11 19 := Or.inl (zm5 (i := 123) rfl rfl)
theorem zlX11_186 : zL RX11 186 TX11 27 := Or.inl (zm5 (i := 131) rfl rfl)
theorem zlX11_252 : zL RX11 252 TX11 25 := Or.inl (zm5 (i := 129) rfl rfl)
theorem zlX10_70 : zL RX10 70 TX1 0 := Or.inr ⟨"NewsExchange", zh1 (i := 68) rfl rfl⟩
theorem zlX10_78 : zL RX10 78 TX9 1 := Or.inr ⟨"NewsExchange", zh1 (i := 115) rfl rfl⟩
theorem zlX10_105 : zL RX10 105 TX9 4 := Or.inr ⟨"NewsExchange", zh1 (i := 119) rfl rfl⟩
theorem zlX10_108 : zL RX10 108 TX1 1 := Or.inr ⟨"NewsExchange", zh1 (i := 76) rfl rfl⟩
theorem zlX10_111 : zL RX10 111 TX7 3 := Or.inr ⟨"NewsExchange", zh1 (i := 183) rfl rfl⟩
theorem zlX10_114 : zL RX10 114 TX7 4 := Or.inr ⟨"NewsExchange", zh1 (i := 185) rfl rfl⟩
theorem zlX10_117 : zL RX10 117 TX7 1 := Or.inr ⟨"NewsExchange", zh1 (i := 175) rfl rfl⟩
theorem zlX10_125 : zL RX10 125 TX7 2 := Or.inr ⟨"NewsExchange", zh1 (i := 179) rfl rfl⟩
theorem zlX10_133 : zL RX10 133 TX1 2 := Or.inr ⟨"NewsExchange", zh1 (i := 80) rfl rfl⟩
theorem zlX10_136 : zL RX10 136 TX1 3 := Or.inr ⟨"NewsExchange", zh1 (i := 84) rfl rfl⟩
theorem zlX10_139 : zL RX10 139 TX1 5 := Or.inr ⟨"NewsExchange", zh1 (i := 90) rfl rfl⟩
theorem zlX10_142 : zL RX10 142 TX1 4 := Or.inr ⟨"NewsExchange", zh1 (i := 87) rfl rfl⟩
theorem zlX10_145 : zL RX10 145 TX1 6 := Or.inr ⟨"NewsExchange", zh1 (i := 93) rfl rfl⟩
theorem zlX10_171 : zL RX10 171 TX7 0 := Or.inr ⟨"NewsExchange", zh1 (i := 173) rfl rfl⟩
theorem zlX10_175 : zL RX10 175 TX3 0 := Or.inr ⟨"NewsExchange", zh1 (i := 162) rfl rfl⟩
theorem zlX10_218 : zL RX10 218 TX4 0 := Or.inr ⟨"NewsExchange", zh2 (i := 2) rfl rfl⟩
theorem zlX10_219 : zL RX10 219 TX4 1 := Or.inr ⟨"NewsExchange", zh2 (i := 4) rfl rfl⟩
theorem zlX10_220 : zL RX10 220 TX4 2 := Or.inr ⟨"NewsExchange", zh2 (i := 6) rfl rfl⟩
theorem zlX10_221 : zL RX10 221 TX4 3 := Or.inr ⟨"NewsExchange", zh2 (i := 8) rfl rfl⟩
theorem zlX0_22 : zL RX0 22 TX1 0 := Or.inr ⟨"NewsExchange", zh1 (i := 70) rfl rfl⟩
theorem zlX0_34 : zL RX0 34 TX1 1 := Or.inr ⟨"NewsExchange", zh1 (i := 73) rfl rfl⟩
theorem zlX0_45 : zL RX0 45 TX1 2 := Or.inr ⟨"NewsExchange", zh1 (i := 79) rfl rfl⟩
theorem zlX0_49 : zL RX0 49 TX1 3 := Or.inr ⟨"NewsExchange", zh1 (i := 83) rfl rfl⟩
theorem zlX0_56 : zL RX0 56 TX1 4 := Or.inr ⟨"NewsExchange", zh1 (i := 86) rfl rfl⟩
theorem zlX1_61 : zL RX1 61 TX3 0 := Or.inr ⟨"NewsExchange", zh1 (i := 163) rfl rfl⟩
theorem zlX4_28 : zL RX4 28 TX7 0 := Or.inr ⟨"NewsExchange", zh1 (i := 171) rfl rfl⟩
theorem zlX4_39 : zL RX4 39 TX7 3 := Or.inr ⟨"NewsExchange", zh1 (i := 181) rfl rfl⟩
theorem zlX4_46 : zL RX4 46 TX7 2 := Or.inr ⟨"NewsExchange", zh1 (i := 177) rfl rfl⟩
theorem zlX6_33 : zL RX6 33 TX1 0 := Or.inr ⟨"NewsExchange", zh1 (i := 69) rfl rfl⟩
theorem zlX6_42 : zL RX6 42 TX7 0 := Or.inr ⟨"NewsExchange", zh1 (i := 172) rfl rfl⟩
theorem zlX6_52 : zL RX6 52 TX7 3 := Or.inr ⟨"NewsExchange", zh1 (i := 182) rfl rfl⟩
theorem zlX6_59 : zL RX6 59 TX7 2 := Or.inr ⟨"NewsExchange", zh1 (i := 178) rfl rfl⟩
theorem zlX6_70 : zL RX6 70 TX1 1 := Or.inr ⟨"NewsExchange", zh1 (i := 74) rfl rfl⟩
theorem zlX6_73 : zL RX6 73 TX1 2 := Or.inr ⟨"NewsExchange", zh1 (i := 78) rfl rfl⟩
theorem zlX6_77 : zL RX6 77 TX1 3 := Or.inr ⟨"NewsExchange", zh1 (i := 82) rfl rfl⟩
theorem zlX6_84 : zL RX6 84 TX1 5 := Or.inr ⟨"NewsExchange", zh1 (i := 89) rfl rfl⟩
theorem zlX6_102 : zL RX6 102 TX3 0 := Or.inr ⟨"NewsExchange", zh1 (i := 161) rfl rfl⟩
theorem zlX7_57 : zL RX7 57 TX5 0 := Or.inr ⟨"NewsExchange", zh5 (i := 26) rfl rfl⟩
theorem zlX7_60 : zL RX7 60 TX5 1 := Or.inr ⟨"NewsExchange", zh5 (i := 28) rfl rfl⟩
theorem zlX7_63 : zL RX7 63 TX5 2 := Or.inr ⟨"NewsExchange", zh5 (i := 30) rfl rfl⟩
theorem zlX9_80 : zL RX9 80 TX1 6 := Or.inr ⟨"NewsExchange", zh1 (i := 92) rfl rfl⟩
theorem zlX9_84 : zL RX9 84 TX1 1 := Or.inr ⟨"NewsExchange", zh1 (i := 75) rfl rfl⟩
theorem zlX9_93 : zL RX9 93 TX1 7 := Or.inr ⟨"NewsExchange", zh1 (i := 95) rfl rfl⟩
theorem zlX9_96 : zL RX9 96 TX1 0 := Or.inr ⟨"NewsExchange", zh1 (i := 71) rfl rfl⟩
theorem zcX0_init : zC yX0_init cX0_init 1 none 0 := ⟨zm1 (i := 223) rfl rfl, zm1 (i := 8) rfl rfl, by decide +kernel⟩
theorem ziiX0_init : Cond.instanceMethod yX0_init ∈ zG := zm1 (i := 222) rfl rfl
theorem zcX0_find : zC yX0_find cX0_find 6 (some .int) 3 := ⟨zm2 (i := 222) rfl rfl, zm1 (i := 8) rfl rfl, by decide +kernel⟩
theorem ziX0_find : zI yX0_find := ⟨zm2 (i := 220) rfl rfl, zm2 (i := 221) rfl rfl⟩
theorem zcX0_rankPairs : zC yX0_rankPairs cX0_rankPairs 8 (some .boolean) 3 := ⟨zm2 (i := 226) rfl rfl, zm1 (i := 8) rfl rfl, by decide +kernel⟩
theorem ziX0_rankPairs : zI yX0_rankPairs := ⟨zm2 (i := 225) rfl rfl, zms (List.mem_of_getElem? (i := 4) rfl) rfl⟩
theorem zcX0_pairOf : zC yX0_pairOf cX0_pairOf 2 (some .int) 2 := ⟨zm2 (i := 231) rfl rfl, zm1 (i := 8) rfl rfl, by decide +kernel⟩
theorem zsX0_pairOf : Cond.static yX0_pairOf ∈ zG := zm2 (i := 230) rfl rfl
theorem zcX0_worth : zC yX0_worth cX0_worth 3 (some .long) 3 := ⟨zm2 (i := 236) rfl rfl, zm1 (i := 8) rfl rfl, by decide +kernel⟩
theorem zsX0_worth : Cond.static yX0_worth ∈ zG := zm2 (i := 235) rfl rfl
theorem zcX0_admit : zC yX0_admit cX0_admit 6 none 1 := ⟨zm3 (i := 3) rfl rfl, zm1 (i := 8) rfl rfl, by decide +kernel⟩
theorem ziX0_admit : zI yX0_admit := ⟨zm3 (i := 2) rfl rfl, zms (List.mem_of_getElem? (i := 5) rfl) rfl⟩
theorem zcX0_admitWith : zC yX0_admitWith cX0_admitWith 8 none 3 := ⟨zm3 (i := 7) rfl rfl, zm1 (i := 8) rfl rfl, by decide +kernel⟩
theorem ziX0_admitWith : zI yX0_admitWith := ⟨zm3 (i := 6) rfl rfl, zms (List.mem_of_getElem? (i := 6) rfl) rfl⟩
theorem zcX1_init : zC yX1_init cX1_init 1 none 0 := ⟨zm1 (i := 43) rfl rfl, zm1 (i := 3) rfl rfl, by decide +kernel⟩
theorem ziiX1_init : Cond.instanceMethod yX1_init ∈ zG := zm1 (i := 42) rfl rfl
theorem zcX1_clear : zC yX1_clear cX1_clear 1 none 0 := ⟨zm3 (i := 101) rfl rfl, zm1 (i := 3) rfl rfl, by decide +kernel⟩
theorem ziX1_clear : zI yX1_clear := ⟨zm3 (i := 99) rfl rfl, zm3 (i := 100) rfl rfl⟩
theorem zcX1_isFull : zC yX1_isFull cX1_isFull 1 (some .boolean) 0 := ⟨zm3 (i := 199) rfl rfl, zm1 (i := 3) rfl rfl, by decide +kernel⟩
theorem ziX1_isFull : zI yX1_isFull := ⟨zm3 (i := 197) rfl rfl, zm3 (i := 198) rfl rfl⟩
theorem zcX1_addLine : zC yX1_addLine cX1_addLine 5 none 4 := ⟨zm3 (i := 205) rfl rfl, zm1 (i := 3) rfl rfl, by decide +kernel⟩
theorem ziX1_addLine : zI yX1_addLine := ⟨zm3 (i := 203) rfl rfl, zm3 (i := 204) rfl rfl⟩
theorem zcX1_allLines : zC yX1_allLines cX1_allLines 1 (some .int) 0 := ⟨zm2 (i := 169) rfl rfl, zm1 (i := 3) rfl rfl, by decide +kernel⟩
theorem ziX1_allLines : zI yX1_allLines := ⟨zm2 (i := 167) rfl rfl, zm2 (i := 168) rfl rfl⟩
theorem zcX1_openLines : zC yX1_openLines cX1_openLines 5 (some .int) 1 := ⟨zm2 (i := 213) rfl rfl, zm1 (i := 3) rfl rfl, by decide +kernel⟩
theorem ziX1_openLines : zI yX1_openLines := ⟨zm2 (i := 211) rfl rfl, zm2 (i := 212) rfl rfl⟩
theorem zcX1_placeByCost : zC yX1_placeByCost cX1_placeByCost 4 (some .int) 1 := ⟨zm2 (i := 103) rfl rfl, zm1 (i := 3) rfl rfl, by decide +kernel⟩
theorem ziX1_placeByCost : zI yX1_placeByCost := ⟨zm2 (i := 101) rfl rfl, zm2 (i := 102) rfl rfl⟩
theorem zcX1_costOf : zC yX1_costOf cX1_costOf 4 (some .int) 1 := ⟨zm4 (i := 98) rfl rfl, zm1 (i := 3) rfl rfl, by decide +kernel⟩
theorem ziX1_costOf : zI yX1_costOf := ⟨zm4 (i := 96) rfl rfl, zm4 (i := 97) rfl rfl⟩
theorem zcX1_personsOf : zC yX1_personsOf cX1_personsOf 4 (some .int) 1 := ⟨zm4 (i := 234) rfl rfl, zm1 (i := 3) rfl rfl, by decide +kernel⟩
theorem ziX1_personsOf : zI yX1_personsOf := ⟨zm4 (i := 232) rfl rfl, zm4 (i := 233) rfl rfl⟩
theorem zcX1_otherPerson : zC yX1_otherPerson cX1_otherPerson 4 (some .int) 2 := ⟨zm4 (i := 74) rfl rfl, zm1 (i := 3) rfl rfl, by decide +kernel⟩
theorem ziX1_otherPerson : zI yX1_otherPerson := ⟨zm4 (i := 72) rfl rfl, zm4 (i := 73) rfl rfl⟩
theorem zcX1_gainOfLine : zC yX1_gainOfLine cX1_gainOfLine 6 (some .int) 2 := ⟨zm2 (i := 136) rfl rfl, zm1 (i := 3) rfl rfl, by decide +kernel⟩
theorem ziX1_gainOfLine : zI yX1_gainOfLine := ⟨zm2 (i := 134) rfl rfl, zm2 (i := 135) rfl rfl⟩
theorem zcX1_gainOf : zC yX1_gainOf cX1_gainOf 5 (some .int) 2 := ⟨zm2 (i := 129) rfl rfl, zm1 (i := 3) rfl rfl, by decide +kernel⟩
theorem ziX1_gainOf : zI yX1_gainOf := ⟨zm2 (i := 127) rfl rfl, zm2 (i := 128) rfl rfl⟩
theorem zcX1_makeCalls : zC yX1_makeCalls cX1_makeCalls 5 none 2 := ⟨zm4 (i := 118) rfl rfl, zm1 (i := 3) rfl rfl, by decide +kernel⟩
theorem ziX1_makeCalls : zI yX1_makeCalls := ⟨zm4 (i := 116) rfl rfl, zm4 (i := 117) rfl rfl⟩
theorem zcX1_spread : zC yX1_spread cX1_spread 5 (some .int) 2 := ⟨zm2 (i := 182) rfl rfl, zm1 (i := 3) rfl rfl, by decide +kernel⟩
theorem ziX1_spread : zI yX1_spread := ⟨zm2 (i := 180) rfl rfl, zm2 (i := 181) rfl rfl⟩
theorem zcX1_reached : zC yX1_reached cX1_reached 6 (some .int) 2 := ⟨zm2 (i := 178) rfl rfl, zm1 (i := 3) rfl rfl, by decide +kernel⟩
theorem ziX1_reached : zI yX1_reached := ⟨zm2 (i := 176) rfl rfl, zm2 (i := 177) rfl rfl⟩
theorem zcX1_neededLines : zC yX1_neededLines cX1_neededLines 6 (some .int) 2 := ⟨zm2 (i := 174) rfl rfl, zm1 (i := 3) rfl rfl, by decide +kernel⟩
theorem ziX1_neededLines : zI yX1_neededLines := ⟨zm2 (i := 172) rfl rfl, zm2 (i := 173) rfl rfl⟩
theorem zcX1_fillLeastCosts : zC yX1_fillLeastCosts cX1_fillLeastCosts 5 none 3 := ⟨zm4 (i := 209) rfl rfl, zm1 (i := 3) rfl rfl, by decide +kernel⟩
theorem ziX1_fillLeastCosts : zI yX1_fillLeastCosts := ⟨zm4 (i := 207) rfl rfl, zm4 (i := 208) rfl rfl⟩
theorem zcX1_lowerCosts : zC yX1_lowerCosts cX1_lowerCosts 6 none 2 := ⟨zm4 (i := 214) rfl rfl, zm1 (i := 3) rfl rfl, by decide +kernel⟩
theorem ziX1_lowerCosts : zI yX1_lowerCosts := ⟨zm4 (i := 213) rfl rfl, zms (List.mem_of_getElem? (i := 31) rfl) rfl⟩
theorem zcX1_added : zC yX1_added cX1_added 2 (some .int) 2 := ⟨zm4 (i := 217) rfl rfl, zm1 (i := 3) rfl rfl, by decide +kernel⟩
theorem zsX1_added : Cond.static yX1_added ∈ zG := zm4 (i := 216) rfl rfl
theorem zcX2_init : zC yX2_init cX2_init 2 none 0 := ⟨zm1 (i := 204) rfl rfl, zm1 (i := 7) rfl rfl, by decide +kernel⟩
theorem ziiX2_init : Cond.instanceMethod yX2_init ∈ zG := zm1 (i := 203) rfl rfl
theorem zcX2_forget : zC yX2_forget cX2_forget 1 none 0 := ⟨zm3 (i := 233) rfl rfl, zm1 (i := 7) rfl rfl, by decide +kernel⟩
theorem ziX2_forget : zI yX2_forget := ⟨zm3 (i := 231) rfl rfl, zm3 (i := 232) rfl rfl⟩
theorem zcX2_remember : zC yX2_remember cX2_remember 2 none 1 := ⟨zm2 (i := 190) rfl rfl, zm1 (i := 7) rfl rfl, by decide +kernel⟩
theorem ziX2_remember : zI yX2_remember := ⟨zm2 (i := 188) rfl rfl, zm2 (i := 189) rfl rfl⟩
theorem zcX2_stepBack : zC yX2_stepBack cX2_stepBack 2 (some .int) 1 := ⟨zm3 (i := 17) rfl rfl, zm1 (i := 7) rfl rfl, by decide +kernel⟩
theorem ziX2_stepBack : zI yX2_stepBack := ⟨zm3 (i := 15) rfl rfl, zm3 (i := 16) rfl rfl⟩
theorem zcX3_init : zC yX3_init cX3_init 1 none 0 := ⟨zm1 (i := 158) rfl rfl, zm1 (i := 6) rfl rfl, by decide +kernel⟩
theorem ziiX3_init : Cond.instanceMethod yX3_init ∈ zG := zm1 (i := 157) rfl rfl
theorem zcX3_begin : zC yX3_begin cX3_begin 3 none 1 := ⟨zm2 (i := 52) rfl rfl, zm1 (i := 6) rfl rfl, by decide +kernel⟩
theorem ziX3_begin : zI yX3_begin := ⟨zm2 (i := 50) rfl rfl, zm2 (i := 51) rfl rfl⟩
theorem zcX3_copyFrom : zC yX3_copyFrom cX3_copyFrom 3 none 1 := ⟨zm2 (i := 198) rfl rfl, zm1 (i := 6) rfl rfl, by decide +kernel⟩
theorem ziX3_copyFrom : zI yX3_copyFrom := ⟨zm2 (i := 196) rfl rfl, zm2 (i := 197) rfl rfl⟩
theorem zcX3_knowersOf : zC yX3_knowersOf cX3_knowersOf 4 (some .int) 1 := ⟨zm2 (i := 149) rfl rfl, zm1 (i := 6) rfl rfl, by decide +kernel⟩
theorem ziX3_knowersOf : zI yX3_knowersOf := ⟨zm2 (i := 147) rfl rfl, zm2 (i := 148) rfl rfl⟩
theorem zcX3_missingPieces : zC yX3_missingPieces cX3_missingPieces 3 (some .int) 0 := ⟨zm2 (i := 111) rfl rfl, zm1 (i := 6) rfl rfl, by decide +kernel⟩
theorem ziX3_missingPieces : zI yX3_missingPieces := ⟨zm2 (i := 109) rfl rfl, zm2 (i := 110) rfl rfl⟩
theorem zcX3_neededDoublings : zC yX3_neededDoublings cX3_neededDoublings 3 (some .int) 0 := ⟨zm2 (i := 145) rfl rfl, zm1 (i := 6) rfl rfl, by decide +kernel⟩
theorem ziX3_neededDoublings : zI yX3_neededDoublings := ⟨zm2 (i := 143) rfl rfl, zm2 (i := 144) rfl rfl⟩
theorem zcX3_doublingsFrom : zC yX3_doublingsFrom cX3_doublingsFrom 4 (some .int) 1 := ⟨zm2 (i := 154) rfl rfl, zm1 (i := 6) rfl rfl, by decide +kernel⟩
theorem ziX3_doublingsFrom : zI yX3_doublingsFrom := ⟨zm2 (i := 153) rfl rfl, zms (List.mem_of_getElem? (i := 0) rfl) rfl⟩
theorem zcX4_init : zC yX4_init cX4_init 1 none 0 := ⟨zm1 (i := 237) rfl rfl, zm1 (i := 9) rfl rfl, by decide +kernel⟩
theorem ziiX4_init : Cond.instanceMethod yX4_init ∈ zG := zm1 (i := 236) rfl rfl
theorem zcX4_make : zC yX4_make cX4_make 6 none 3 := ⟨zm4 (i := 110) rfl rfl, zm1 (i := 9) rfl rfl, by decide +kernel⟩
theorem ziX4_make : zI yX4_make := ⟨zm4 (i := 108) rfl rfl, zm4 (i := 109) rfl rfl⟩
theorem zcX5_init : zC yX5_init cX5_init 4 none 3 := ⟨zm5 (i := 23) rfl rfl, zm1 (i := 24) rfl rfl, by decide +kernel⟩
theorem ziiX5_init : Cond.instanceMethod yX5_init ∈ zG := zm5 (i := 22) rfl rfl
theorem zcX6_init : zC yX6_init cX6_init 2 none 0 := ⟨zm2 (i := 22) rfl rfl, zm1 (i := 10) rfl rfl, by decide +kernel⟩
theorem ziiX6_init : Cond.instanceMethod yX6_init ∈ zG := zm2 (i := 21) rfl rfl
theorem zcX6_find : zC yX6_find cX6_find 5 (some .int) 3 := ⟨zm4 (i := 149) rfl rfl, zm1 (i := 10) rfl rfl, by decide +kernel⟩
theorem ziX6_find : zI yX6_find := ⟨zm4 (i := 147) rfl rfl, zm4 (i := 148) rfl rfl⟩
theorem zcX6_connect : zC yX6_connect cX6_connect 7 none 3 := ⟨zm4 (i := 156) rfl rfl, zm1 (i := 10) rfl rfl, by decide +kernel⟩
theorem ziX6_connect : zI yX6_connect := ⟨zm4 (i := 155) rfl rfl, zms (List.mem_of_getElem? (i := 22) rfl) rfl⟩
theorem zcX6_canEnd : zC yX6_canEnd cX6_canEnd 2 (some .boolean) 1 := ⟨zm4 (i := 161) rfl rfl, zm1 (i := 10) rfl rfl, by decide +kernel⟩
theorem ziX6_canEnd : zI yX6_canEnd := ⟨zm4 (i := 160) rfl rfl, zms (List.mem_of_getElem? (i := 23) rfl) rfl⟩
theorem zcX6_allCanLearnTheRest : zC yX6_allCanLearnTheRest cX6_allCanLearnTheRest 3 (some .boolean) 1 := ⟨zm4 (i := 166) rfl rfl, zm1 (i := 10) rfl rfl, by decide +kernel⟩
theorem ziX6_allCanLearnTheRest : zI yX6_allCanLearnTheRest := ⟨zm4 (i := 165) rfl rfl, zms (List.mem_of_getElem? (i := 24) rfl) rfl⟩
theorem zcX6_canLearnTheRest : zC yX6_canLearnTheRest cX6_canLearnTheRest 7 (some .boolean) 2 := ⟨zm4 (i := 170) rfl rfl, zm1 (i := 10) rfl rfl, by decide +kernel⟩
theorem ziX6_canLearnTheRest : zI yX6_canLearnTheRest := ⟨zm4 (i := 169) rfl rfl, zms (List.mem_of_getElem? (i := 25) rfl) rfl⟩
theorem zcX6_pairUp : zC yX6_pairUp cX6_pairUp 7 (some .boolean) 4 := ⟨zm4 (i := 174) rfl rfl, zm1 (i := 10) rfl rfl, by decide +kernel⟩
theorem ziX6_pairUp : zI yX6_pairUp := ⟨zm4 (i := 173) rfl rfl, zms (List.mem_of_getElem? (i := 26) rfl) rfl⟩
theorem zcX6_tryPair : zC yX6_tryPair cX6_tryPair 10 (some .boolean) 5 := ⟨zm4 (i := 178) rfl rfl, zm1 (i := 10) rfl rfl, by decide +kernel⟩
theorem ziX6_tryPair : zI yX6_tryPair := ⟨zm4 (i := 177) rfl rfl, zms (List.mem_of_getElem? (i := 27) rfl) rfl⟩
theorem zcX6_tryAlone : zC yX6_tryAlone cX6_tryAlone 5 (some .boolean) 4 := ⟨zm4 (i := 186) rfl rfl, zm1 (i := 10) rfl rfl, by decide +kernel⟩
theorem ziX6_tryAlone : zI yX6_tryAlone := ⟨zm4 (i := 185) rfl rfl, zms (List.mem_of_getElem? (i := 29) rfl) rfl⟩
theorem zcX6_goOn : zC yX6_goOn cX6_goOn 8 (some .boolean) 5 := ⟨zm4 (i := 182) rfl rfl, zm1 (i := 10) rfl rfl, by decide +kernel⟩
theorem ziX6_goOn : zI yX6_goOn := ⟨zm4 (i := 181) rfl rfl, zms (List.mem_of_getElem? (i := 28) rfl) rfl⟩
theorem zcX6_couldCall : zC yX6_couldCall cX6_couldCall 5 (some .boolean) 3 := ⟨zm4 (i := 190) rfl rfl, zm1 (i := 10) rfl rfl, by decide +kernel⟩
theorem ziX6_couldCall : zI yX6_couldCall := ⟨zm4 (i := 189) rfl rfl, zms (List.mem_of_getElem? (i := 30) rfl) rfl⟩
theorem zcX7_init : zC yX7_init cX7_init 1 none 0 := ⟨zm1 (i := 152) rfl rfl, zm1 (i := 5) rfl rfl, by decide +kernel⟩
theorem ziiX7_init : Cond.instanceMethod yX7_init ∈ zG := zm1 (i := 151) rfl rfl
theorem zcX7_begin : zC yX7_begin cX7_begin 2 none 1 := ⟨zm2 (i := 48) rfl rfl, zm1 (i := 5) rfl rfl, by decide +kernel⟩
theorem ziX7_begin : zI yX7_begin := ⟨zm2 (i := 46) rfl rfl, zm2 (i := 47) rfl rfl⟩
theorem zcX7_copyFrom : zC yX7_copyFrom cX7_copyFrom 2 none 1 := ⟨zm2 (i := 194) rfl rfl, zm1 (i := 5) rfl rfl, by decide +kernel⟩
theorem ziX7_copyFrom : zI yX7_copyFrom := ⟨zm2 (i := 192) rfl rfl, zm2 (i := 193) rfl rfl⟩
theorem zcX7_endRound : zC yX7_endRound cX7_endRound 2 none 1 := ⟨zm5 (i := 16) rfl rfl, zm1 (i := 5) rfl rfl, by decide +kernel⟩
theorem ziX7_endRound : zI yX7_endRound := ⟨zm5 (i := 14) rfl rfl, zm5 (i := 15) rfl rfl⟩
theorem zcX7_spentUpTo : zC yX7_spentUpTo cX7_spentUpTo 3 (some .int) 1 := ⟨zm4 (i := 86) rfl rfl, zm1 (i := 5) rfl rfl, by decide +kernel⟩
theorem ziX7_spentUpTo : zI yX7_spentUpTo := ⟨zm4 (i := 84) rfl rfl, zm4 (i := 85) rfl rfl⟩
theorem zcX8_init : zC yX8_init cX8_init 1 none 0 := ⟨zm1 (i := 49) rfl rfl, zm1 (i := 4) rfl rfl, by decide +kernel⟩
theorem ziiX8_init : Cond.instanceMethod yX8_init ∈ zG := zm1 (i := 48) rfl rfl
theorem zcX8_clear : zC yX8_clear cX8_clear 1 none 0 := ⟨zm3 (i := 105) rfl rfl, zm1 (i := 4) rfl rfl, by decide +kernel⟩
theorem ziX8_clear : zI yX8_clear := ⟨zm3 (i := 103) rfl rfl, zm3 (i := 104) rfl rfl⟩
theorem zcX8_isFull : zC yX8_isFull cX8_isFull 1 (some .boolean) 0 := ⟨zm3 (i := 215) rfl rfl, zm1 (i := 4) rfl rfl, by decide +kernel⟩
theorem ziX8_isFull : zI yX8_isFull := ⟨zm3 (i := 213) rfl rfl, zm3 (i := 214) rfl rfl⟩
theorem zcX8_add : zC yX8_add cX8_add 4 none 3 := ⟨zm3 (i := 219) rfl rfl, zm1 (i := 4) rfl rfl, by decide +kernel⟩
theorem ziX8_add : zI yX8_add := ⟨zm3 (i := 217) rfl rfl, zm3 (i := 218) rfl rfl⟩
theorem zcX8_countOf : zC yX8_countOf cX8_countOf 4 (some .int) 1 := ⟨zm4 (i := 34) rfl rfl, zm1 (i := 4) rfl rfl, by decide +kernel⟩
theorem ziX8_countOf : zI yX8_countOf := ⟨zm4 (i := 32) rfl rfl, zm4 (i := 33) rfl rfl⟩
theorem zcX8_keptOut : zC yX8_keptOut cX8_keptOut 4 (some .int) 1 := ⟨zm2 (i := 217) rfl rfl, zm1 (i := 4) rfl rfl, by decide +kernel⟩
theorem ziX8_keptOut : zI yX8_keptOut := ⟨zm2 (i := 215) rfl rfl, zm2 (i := 216) rfl rfl⟩
theorem zcX9_init : zC yX9_init cX9_init 1 none 0 := ⟨zm1 (i := 37) rfl rfl, zm1 (i := 2) rfl rfl, by decide +kernel⟩
theorem ziiX9_init : Cond.instanceMethod yX9_init ∈ zG := zm1 (i := 36) rfl rfl
theorem zcX9_putFourBytes : zC yX9_putFourBytes cX9_putFourBytes 3 none 1 := ⟨zm2 (i := 91) rfl rfl, zm1 (i := 2) rfl rfl, by decide +kernel⟩
theorem ziX9_putFourBytes : zI yX9_putFourBytes := ⟨zm2 (i := 89) rfl rfl, zm2 (i := 90) rfl rfl⟩
theorem zcX9_readExchange : zC yX9_readExchange cX9_readExchange 3 (some .int) 1 := ⟨zm3 (i := 96) rfl rfl, zm1 (i := 2) rfl rfl, by decide +kernel⟩
theorem ziX9_readExchange : zI yX9_readExchange := ⟨zm3 (i := 94) rfl rfl, zm3 (i := 95) rfl rfl⟩
theorem zcX9_handOver : zC yX9_handOver cX9_handOver 3 (some (.object "NewsExchange$Exchange")) 1 := ⟨zm3 (i := 225) rfl rfl, zm1 (i := 2) rfl rfl, by decide +kernel⟩
theorem ziX9_handOver : zI yX9_handOver := ⟨zm3 (i := 223) rfl rfl, zm3 (i := 224) rfl rfl⟩
theorem zcX9_fail : zC yX9_fail cX9_fail 2 (some .boolean) 1 := ⟨zm3 (i := 182) rfl rfl, zm1 (i := 2) rfl rfl, by decide +kernel⟩
theorem ziX9_fail : zI yX9_fail := ⟨zm3 (i := 181) rfl rfl, zms (List.mem_of_getElem? (i := 14) rfl) rfl⟩
theorem zcX9_readStatement : zC yX9_readStatement cX9_readStatement 2 (some .boolean) 1 := ⟨zm3 (i := 121) rfl rfl, zm1 (i := 2) rfl rfl, by decide +kernel⟩
theorem ziX9_readStatement : zI yX9_readStatement := ⟨zm3 (i := 120) rfl rfl, zms (List.mem_of_getElem? (i := 11) rfl) rfl⟩
theorem zcX9_readPeople : zC yX9_readPeople cX9_readPeople 2 (some .boolean) 1 := ⟨zm3 (i := 178) rfl rfl, zm1 (i := 2) rfl rfl, by decide +kernel⟩
theorem ziX9_readPeople : zI yX9_readPeople := ⟨zm3 (i := 177) rfl rfl, zms (List.mem_of_getElem? (i := 13) rfl) rfl⟩
theorem zcX9_readLine : zC yX9_readLine cX9_readLine 4 (some .boolean) 0 := ⟨zm3 (i := 195) rfl rfl, zm1 (i := 2) rfl rfl, by decide +kernel⟩
theorem ziX9_readLine : zI yX9_readLine := ⟨zm3 (i := 194) rfl rfl, zms (List.mem_of_getElem? (i := 17) rfl) rfl⟩
theorem zcX9_readSpan : zC yX9_readSpan cX9_readSpan 5 (some .boolean) 2 := ⟨zm3 (i := 211) rfl rfl, zm1 (i := 2) rfl rfl, by decide +kernel⟩
theorem ziX9_readSpan : zI yX9_readSpan := ⟨zm3 (i := 210) rfl rfl, zms (List.mem_of_getElem? (i := 18) rfl) rfl⟩
theorem zcX9_readNumber : zC yX9_readNumber cX9_readNumber 4 (some .boolean) 2 := ⟨zm3 (i := 186) rfl rfl, zm1 (i := 2) rfl rfl, by decide +kernel⟩
theorem ziX9_readNumber : zI yX9_readNumber := ⟨zm3 (i := 185) rfl rfl, zms (List.mem_of_getElem? (i := 15) rfl) rfl⟩
theorem zcX9_readSemicolon : zC yX9_readSemicolon cX9_readSemicolon 1 (some .boolean) 0 := ⟨zm3 (i := 190) rfl rfl, zm1 (i := 2) rfl rfl, by decide +kernel⟩
theorem ziX9_readSemicolon : zI yX9_readSemicolon := ⟨zm3 (i := 189) rfl rfl, zms (List.mem_of_getElem? (i := 16) rfl) rfl⟩
theorem zcX9_isWord : zC yX9_isWord cX9_isWord 3 (some .boolean) 1 := ⟨zm3 (i := 126) rfl rfl, zm1 (i := 2) rfl rfl, by decide +kernel⟩
theorem ziX9_isWord : zI yX9_isWord := ⟨zm3 (i := 125) rfl rfl, zms (List.mem_of_getElem? (i := 12) rfl) rfl⟩
theorem zcX9_nextToken : zC yX9_nextToken cX9_nextToken 1 none 0 := ⟨zm3 (i := 109) rfl rfl, zm1 (i := 2) rfl rfl, by decide +kernel⟩
theorem ziX9_nextToken : zI yX9_nextToken := ⟨zm3 (i := 108) rfl rfl, zms (List.mem_of_getElem? (i := 8) rfl) rfl⟩
theorem zcX9_skipSeparators : zC yX9_skipSeparators cX9_skipSeparators 1 none 0 := ⟨zm3 (i := 113) rfl rfl, zm1 (i := 2) rfl rfl, by decide +kernel⟩
theorem ziX9_skipSeparators : zI yX9_skipSeparators := ⟨zm3 (i := 112) rfl rfl, zms (List.mem_of_getElem? (i := 9) rfl) rfl⟩
theorem zcX9_takeRun : zC yX9_takeRun cX9_takeRun 3 (some .boolean) 2 := ⟨zm3 (i := 117) rfl rfl, zm1 (i := 2) rfl rfl, by decide +kernel⟩
theorem ziX9_takeRun : zI yX9_takeRun := ⟨zm3 (i := 116) rfl rfl, zms (List.mem_of_getElem? (i := 10) rfl) rfl⟩
theorem zcX10_init : zC yX10_init cX10_init 2 none 0 := ⟨zm1 (i := 29) rfl rfl, zm1 (i := 1) rfl rfl, by decide +kernel⟩
theorem ziiX10_init : Cond.instanceMethod yX10_init ∈ zG := zm1 (i := 28) rfl rfl
theorem zcX10_append : zC yX10_append cX10_append 6 (some .int) 5 := ⟨zm2 (i := 87) rfl rfl, zm1 (i := 1) rfl rfl, by decide +kernel⟩
theorem ziX10_append : zI yX10_append := ⟨zm2 (i := 85) rfl rfl, zm2 (i := 86) rfl rfl⟩
theorem zcX10_parse : zC yX10_parse cX10_parse 3 (some .int) 1 := ⟨zm3 (i := 25) rfl rfl, zm1 (i := 1) rfl rfl, by decide +kernel⟩
theorem ziX10_parse : zI yX10_parse := ⟨zm3 (i := 23) rfl rfl, zm3 (i := 24) rfl rfl⟩
theorem zcX10_startAnew : zC yX10_startAnew cX10_startAnew 2 none 0 := ⟨zm3 (i := 229) rfl rfl, zm1 (i := 1) rfl rfl, by decide +kernel⟩
theorem ziX10_startAnew : zI yX10_startAnew := ⟨zm3 (i := 228) rfl rfl, zms (List.mem_of_getElem? (i := 19) rfl) rfl⟩
theorem zcX10_errorPosition : zC yX10_errorPosition cX10_errorPosition 1 (some .int) 0 := ⟨zm2 (i := 95) rfl rfl, zm1 (i := 1) rfl rfl, by decide +kernel⟩
theorem ziX10_errorPosition : zI yX10_errorPosition := ⟨zm2 (i := 93) rfl rfl, zm2 (i := 94) rfl rfl⟩
theorem zcX10_size : zC yX10_size cX10_size 2 (some .int) 1 := ⟨zm4 (i := 0) rfl rfl, zm1 (i := 1) rfl rfl, by decide +kernel⟩
theorem ziX10_size : zI yX10_size := ⟨zm3 (i := 238) rfl rfl, zm3 (i := 239) rfl rfl⟩
theorem zcX10_line : zC yX10_line cX10_line 3 (some .int) 2 := ⟨zm4 (i := 10) rfl rfl, zm1 (i := 1) rfl rfl, by decide +kernel⟩
theorem ziX10_line : zI yX10_line := ⟨zm4 (i := 8) rfl rfl, zm4 (i := 9) rfl rfl⟩
theorem zcX10_isUsable : zC yX10_isUsable cX10_isUsable 3 (some .boolean) 2 := ⟨zm4 (i := 42) rfl rfl, zm1 (i := 1) rfl rfl, by decide +kernel⟩
theorem ziX10_isUsable : zI yX10_isUsable := ⟨zm4 (i := 40) rfl rfl, zm4 (i := 41) rfl rfl⟩
theorem zcX10_cheapestLine : zC yX10_cheapestLine cX10_cheapestLine 3 (some .int) 1 := ⟨zm2 (i := 99) rfl rfl, zm1 (i := 1) rfl rfl, by decide +kernel⟩
theorem ziX10_cheapestLine : zI yX10_cheapestLine := ⟨zm2 (i := 97) rfl rfl, zm2 (i := 98) rfl rfl⟩
theorem zcX10_known : zC yX10_known cX10_known 2 (some .int) 1 := ⟨zm4 (i := 51) rfl rfl, zm1 (i := 1) rfl rfl, by decide +kernel⟩
theorem ziX10_known : zI yX10_known := ⟨zm4 (i := 49) rfl rfl, zm4 (i := 50) rfl rfl⟩
theorem zcX10_knowers : zC yX10_knowers cX10_knowers 2 (some .int) 1 := ⟨zm4 (i := 63) rfl rfl, zm1 (i := 1) rfl rfl, by decide +kernel⟩
theorem ziX10_knowers : zI yX10_knowers := ⟨zm4 (i := 61) rfl rfl, zm4 (i := 62) rfl rfl⟩
theorem zcX10_missing : zC yX10_missing cX10_missing 1 (some .int) 0 := ⟨zm2 (i := 107) rfl rfl, zm1 (i := 1) rfl rfl, by decide +kernel⟩
theorem ziX10_missing : zI yX10_missing := ⟨zm2 (i := 105) rfl rfl, zm2 (i := 106) rfl rfl⟩
theorem zcX10_partner : zC yX10_partner cX10_partner 2 (some .int) 1 := ⟨zm4 (i := 70) rfl rfl, zm1 (i := 1) rfl rfl, by decide +kernel⟩
theorem ziX10_partner : zI yX10_partner := ⟨zm4 (i := 68) rfl rfl, zm4 (i := 69) rfl rfl⟩
theorem zcX10_arranged : zC yX10_arranged cX10_arranged 1 (some .int) 0 := ⟨zm2 (i := 121) rfl rfl, zm1 (i := 1) rfl rfl, by decide +kernel⟩
theorem ziX10_arranged : zI yX10_arranged := ⟨zm2 (i := 119) rfl rfl, zm2 (i := 120) rfl rfl⟩
theorem zcX10_gain : zC yX10_gain cX10_gain 1 (some .int) 0 := ⟨zm2 (i := 125) rfl rfl, zm1 (i := 1) rfl rfl, by decide +kernel⟩
theorem ziX10_gain : zI yX10_gain := ⟨zm2 (i := 123) rfl rfl, zm2 (i := 124) rfl rfl⟩
theorem zcX10_spent : zC yX10_spent cX10_spent 2 (some .int) 1 := ⟨zm4 (i := 81) rfl rfl, zm1 (i := 1) rfl rfl, by decide +kernel⟩
theorem ziX10_spent : zI yX10_spent := ⟨zm4 (i := 79) rfl rfl, zm4 (i := 80) rfl rfl⟩
theorem zcX10_best : zC yX10_best cX10_best 3 (some .int) 1 := ⟨zm4 (i := 93) rfl rfl, zm1 (i := 1) rfl rfl, by decide +kernel⟩
theorem ziX10_best : zI yX10_best := ⟨zm4 (i := 91) rfl rfl, zm4 (i := 92) rfl rfl⟩
theorem zcX10_bestOfNextRound : zC yX10_bestOfNextRound cX10_bestOfNextRound 1 (some .int) 0 := ⟨zm2 (i := 205) rfl rfl, zm1 (i := 1) rfl rfl, by decide +kernel⟩
theorem ziX10_bestOfNextRound : zI yX10_bestOfNextRound := ⟨zm2 (i := 204) rfl rfl, zms (List.mem_of_getElem? (i := 2) rfl) rfl⟩
theorem zcX10_plan : zC yX10_plan cX10_plan 2 (some .int) 1 := ⟨zm4 (i := 105) rfl rfl, zm1 (i := 1) rfl rfl, by decide +kernel⟩
theorem ziX10_plan : zI yX10_plan := ⟨zm4 (i := 103) rfl rfl, zm4 (i := 104) rfl rfl⟩
theorem zcX10_fewest : zC yX10_fewest cX10_fewest 2 (some .int) 1 := ⟨zm4 (i := 128) rfl rfl, zm1 (i := 1) rfl rfl, by decide +kernel⟩
theorem ziX10_fewest : zI yX10_fewest := ⟨zm4 (i := 126) rfl rfl, zm4 (i := 127) rfl rfl⟩
theorem zcX10_doublings : zC yX10_doublings cX10_doublings 1 (some .int) 0 := ⟨zm2 (i := 141) rfl rfl, zm1 (i := 1) rfl rfl, by decide +kernel⟩
theorem ziX10_doublings : zI yX10_doublings := ⟨zm2 (i := 139) rfl rfl, zm2 (i := 140) rfl rfl⟩
theorem zcX10_soonest : zC yX10_soonest cX10_soonest 5 (some .int) 2 := ⟨zm4 (i := 197) rfl rfl, zm1 (i := 1) rfl rfl, by decide +kernel⟩
theorem ziX10_soonest : zI yX10_soonest := ⟨zm4 (i := 195) rfl rfl, zm4 (i := 196) rfl rfl⟩
theorem zcX10_cheapest : zC yX10_cheapest cX10_cheapest 3 (some .int) 2 := ⟨zm4 (i := 205) rfl rfl, zm1 (i := 1) rfl rfl, by decide +kernel⟩
theorem ziX10_cheapest : zI yX10_cheapest := ⟨zm4 (i := 203) rfl rfl, zm4 (i := 204) rfl rfl⟩
theorem zcX10_vital : zC yX10_vital cX10_vital 4 (some .int) 0 := ⟨zm2 (i := 161) rfl rfl, zm1 (i := 1) rfl rfl, by decide +kernel⟩
theorem ziX10_vital : zI yX10_vital := ⟨zm2 (i := 159) rfl rfl, zm2 (i := 160) rfl rfl⟩
theorem zcX10_arrange : zC yX10_arrange cX10_arrange 2 (some .int) 1 := ⟨zm4 (i := 225) rfl rfl, zm1 (i := 1) rfl rfl, by decide +kernel⟩
theorem ziX10_arrange : zI yX10_arrange := ⟨zm4 (i := 223) rfl rfl, zm4 (i := 224) rfl rfl⟩
theorem zcX10_canArrange : zC yX10_canArrange cX10_canArrange 3 (some .boolean) 1 := ⟨zm4 (i := 230) rfl rfl, zm1 (i := 1) rfl rfl, by decide +kernel⟩
theorem ziX10_canArrange : zI yX10_canArrange := ⟨zm4 (i := 229) rfl rfl, zms (List.mem_of_getElem? (i := 32) rfl) rfl⟩
theorem zcX10_takeBack : zC yX10_takeBack cX10_takeBack 2 (some .int) 1 := ⟨zm5 (i := 2) rfl rfl, zm1 (i := 1) rfl rfl, by decide +kernel⟩
theorem ziX10_takeBack : zI yX10_takeBack := ⟨zm5 (i := 0) rfl rfl, zm5 (i := 1) rfl rfl⟩
theorem zcX10_arrangeBest : zC yX10_arrangeBest cX10_arrangeBest 1 (some .int) 0 := ⟨zm2 (i := 186) rfl rfl, zm1 (i := 1) rfl rfl, by decide +kernel⟩
theorem ziX10_arrangeBest : zI yX10_arrangeBest := ⟨zm2 (i := 184) rfl rfl, zm2 (i := 185) rfl rfl⟩
theorem zcX10_ring : zC yX10_ring cX10_ring 2 (some .int) 0 := ⟨zm5 (i := 10) rfl rfl, zm1 (i := 1) rfl rfl, by decide +kernel⟩
theorem ziX10_ring : zI yX10_ring := ⟨zm5 (i := 8) rfl rfl, zm5 (i := 9) rfl rfl⟩
theorem zcX10_cut : zC yX10_cut cX10_cut 3 (some .boolean) 1 := ⟨zm5 (i := 44) rfl rfl, zm1 (i := 1) rfl rfl, by decide +kernel⟩
theorem ziX10_cut : zI yX10_cut := ⟨zm5 (i := 42) rfl rfl, zm5 (i := 43) rfl rfl⟩
theorem zcX10_mend : zC yX10_mend cX10_mend 2 (some .int) 1 := ⟨zm5 (i := 52) rfl rfl, zm1 (i := 1) rfl rfl, by decide +kernel⟩
theorem ziX10_mend : zI yX10_mend := ⟨zm5 (i := 50) rfl rfl, zm5 (i := 51) rfl rfl⟩
theorem zcX10_tell : zC yX10_tell cX10_tell 3 (some .int) 2 := ⟨zm5 (i := 60) rfl rfl, zm1 (i := 1) rfl rfl, by decide +kernel⟩
theorem ziX10_tell : zI yX10_tell := ⟨zm5 (i := 58) rfl rfl, zm5 (i := 59) rfl rfl⟩
theorem zcX10_undo : zC yX10_undo cX10_undo 1 (some .int) 0 := ⟨zm3 (i := 13) rfl rfl, zm1 (i := 1) rfl rfl, by decide +kernel⟩
theorem ziX10_undo : zI yX10_undo := ⟨zm3 (i := 11) rfl rfl, zm3 (i := 12) rfl rfl⟩
theorem zcX10_saveSnapshot : zC yX10_saveSnapshot cX10_saveSnapshot 3 (some .boolean) 1 := ⟨zm5 (i := 68) rfl rfl, zm1 (i := 1) rfl rfl, by decide +kernel⟩
theorem ziX10_saveSnapshot : zI yX10_saveSnapshot := ⟨zm5 (i := 66) rfl rfl, zm5 (i := 67) rfl rfl⟩
theorem zcX10_restoreSnapshot : zC yX10_restoreSnapshot cX10_restoreSnapshot 2 (some .int) 1 := ⟨zm5 (i := 81) rfl rfl, zm1 (i := 1) rfl rfl, by decide +kernel⟩
theorem ziX10_restoreSnapshot : zI yX10_restoreSnapshot := ⟨zm5 (i := 79) rfl rfl, zm5 (i := 80) rfl rfl⟩
theorem zcX10_requireLine : zC yX10_requireLine cX10_requireLine 2 none 1 := ⟨zm4 (i := 14) rfl rfl, zm1 (i := 1) rfl rfl, by decide +kernel⟩
theorem ziX10_requireLine : zI yX10_requireLine := ⟨zm4 (i := 13) rfl rfl, zms (List.mem_of_getElem? (i := 20) rfl) rfl⟩
theorem zcX10_requirePerson : zC yX10_requirePerson cX10_requirePerson 2 none 1 := ⟨zm4 (i := 55) rfl rfl, zm1 (i := 1) rfl rfl, by decide +kernel⟩
theorem ziX10_requirePerson : zI yX10_requirePerson := ⟨zm4 (i := 54) rfl rfl, zms (List.mem_of_getElem? (i := 21) rfl) rfl⟩
theorem zcX10_requireSlot : zC yX10_requireSlot cX10_requireSlot 2 none 1 := ⟨zm5 (i := 72) rfl rfl, zm1 (i := 1) rfl rfl, by decide +kernel⟩
theorem ziX10_requireSlot : zI yX10_requireSlot := ⟨zm5 (i := 71) rfl rfl, zms (List.mem_of_getElem? (i := 33) rfl) rfl⟩
theorem zcX10_uncutLines : zC yX10_uncutLines cX10_uncutLines 1 (some .int) 0 := ⟨zm2 (i := 165) rfl rfl, zm1 (i := 1) rfl rfl, by decide +kernel⟩
theorem ziX10_uncutLines : zI yX10_uncutLines := ⟨zm2 (i := 164) rfl rfl, zms (List.mem_of_getElem? (i := 1) rfl) rfl⟩
theorem zcX10_usableLines : zC yX10_usableLines cX10_usableLines 2 (some .int) 1 := ⟨zm2 (i := 209) rfl rfl, zm1 (i := 1) rfl rfl, by decide +kernel⟩
theorem ziX10_usableLines : zI yX10_usableLines := ⟨zm2 (i := 208) rfl rfl, zms (List.mem_of_getElem? (i := 3) rfl) rfl⟩
theorem zcX10_isIn : zC yX10_isIn cX10_isIn 2 (some .boolean) 2 := ⟨zm2 (i := 132) rfl rfl, zm1 (i := 1) rfl rfl, by decide +kernel⟩
theorem zsX10_isIn : Cond.static yX10_isIn ∈ zG := zm2 (i := 131) rfl rfl
theorem zcX11_init : zC yX11_init cX11_init 1 none 0 := ⟨zm5 (i := 87) rfl rfl, zm1 (i := 11) rfl rfl, by decide +kernel⟩
theorem ziiX11_init : Cond.instanceMethod yX11_init ∈ zG := zm5 (i := 86) rfl rfl
theorem zcX11_within : zC yX11_within cX11_within 3 (some .boolean) 3 := ⟨zm5 (i := 212) rfl rfl, zm1 (i := 11) rfl rfl, by decide +kernel⟩
theorem zsX11_within : Cond.static yX11_within ∈ zG := zm5 (i := 211) rfl rfl
theorem zcX11_throwsIf : zC yX11_throwsIf cX11_throwsIf 3 (some .boolean) 2 := ⟨zm5 (i := 216) rfl rfl, zm1 (i := 11) rfl rfl, by decide +kernel⟩
theorem ziX11_throwsIf : zI yX11_throwsIf := ⟨zm5 (i := 215) rfl rfl, zms (List.mem_of_getElem? (i := 38) rfl) rfl⟩
theorem zcX11_lifts : zC yX11_lifts cX11_lifts 2 none 1 := ⟨zm5 (i := 99) rfl rfl, zm1 (i := 11) rfl rfl, by decide +kernel⟩
theorem zsX11_lifts : Cond.static yX11_lifts ∈ zG := zm5 (i := 98) rfl rfl
theorem zcX11_liftsAll : zC yX11_liftsAll cX11_liftsAll 1 none 0 := ⟨zm5 (i := 96) rfl rfl, zm1 (i := 11) rfl rfl, by decide +kernel⟩
theorem ziX11_liftsAll : zI yX11_liftsAll := ⟨zm5 (i := 95) rfl rfl, zms (List.mem_of_getElem? (i := 35) rfl) rfl⟩
theorem zcX11_clearDraft : zC yX11_clearDraft cX11_clearDraft 1 none 0 := ⟨zm5 (i := 92) rfl rfl, zm1 (i := 11) rfl rfl, by decide +kernel⟩
theorem ziX11_clearDraft : zI yX11_clearDraft := ⟨zm5 (i := 91) rfl rfl, zms (List.mem_of_getElem? (i := 34) rfl) rfl⟩
theorem zcX11_append : zC yX11_append cX11_append 6 (some .int) 5 := ⟨zm5 (i := 201) rfl rfl, zm1 (i := 11) rfl rfl, by decide +kernel⟩
theorem ziX11_append : zI yX11_append := ⟨zm5 (i := 199) rfl rfl, zm5 (i := 200) rfl rfl⟩
theorem zcX11_bytesOf : zC yX11_bytesOf cX11_bytesOf 3 none 1 := ⟨zm5 (i := 205) rfl rfl, zm1 (i := 11) rfl rfl, by decide +kernel⟩
theorem ziX11_bytesOf : zI yX11_bytesOf := ⟨zm5 (i := 204) rfl rfl, zms (List.mem_of_getElem? (i := 37) rfl) rfl⟩
theorem zcX11_byteAt : zC yX11_byteAt cX11_byteAt 2 (some .int) 1 := ⟨zm5 (i := 224) rfl rfl, zm1 (i := 11) rfl rfl, by decide +kernel⟩
theorem ziX11_byteAt : zI yX11_byteAt := ⟨zm5 (i := 223) rfl rfl, zms (List.mem_of_getElem? (i := 40) rfl) rfl⟩
theorem zcX11_advance : zC yX11_advance cX11_advance 2 none 0 := ⟨zm5 (i := 220) rfl rfl, zm1 (i := 11) rfl rfl, by decide +kernel⟩
theorem ziX11_advance : zI yX11_advance := ⟨zm5 (i := 219) rfl rfl, zms (List.mem_of_getElem? (i := 39) rfl) rfl⟩
theorem zcX11_isWord : zC yX11_isWord cX11_isWord 4 (some .boolean) 1 := ⟨zm5 (i := 233) rfl rfl, zm1 (i := 11) rfl rfl, by decide +kernel⟩
theorem ziX11_isWord : zI yX11_isWord := ⟨zm5 (i := 232) rfl rfl, zms (List.mem_of_getElem? (i := 42) rfl) rfl⟩
theorem zcX11_fails : zC yX11_fails cX11_fails 2 (some .boolean) 1 := ⟨zm6 (i := 3) rfl rfl, zm1 (i := 11) rfl rfl, by decide +kernel⟩
theorem ziX11_fails : zI yX11_fails := ⟨zm6 (i := 2) rfl rfl, zms (List.mem_of_getElem? (i := 44) rfl) rfl⟩
theorem zcX11_takes : zC yX11_takes cX11_takes 3 (some .boolean) 2 := ⟨zm6 (i := 7) rfl rfl, zm1 (i := 11) rfl rfl, by decide +kernel⟩
theorem ziX11_takes : zI yX11_takes := ⟨zm6 (i := 6) rfl rfl, zms (List.mem_of_getElem? (i := 45) rfl) rfl⟩
theorem zcX11_starts : zC yX11_starts cX11_starts 3 (some .boolean) 2 := ⟨zm5 (i := 239) rfl rfl, zm1 (i := 11) rfl rfl, by decide +kernel⟩
theorem ziX11_starts : zI yX11_starts := ⟨zm5 (i := 238) rfl rfl, zms (List.mem_of_getElem? (i := 43) rfl) rfl⟩
theorem zcX11_puts : zC yX11_puts cX11_puts 5 (some .boolean) 4 := ⟨zm6 (i := 16) rfl rfl, zm1 (i := 11) rfl rfl, by decide +kernel⟩
theorem ziX11_puts : zI yX11_puts := ⟨zm6 (i := 15) rfl rfl, zms (List.mem_of_getElem? (i := 47) rfl) rfl⟩
theorem zcX11_lineLine : zC yX11_lineLine cX11_lineLine 4 (some .boolean) 0 := ⟨zm6 (i := 12) rfl rfl, zm1 (i := 11) rfl rfl, by decide +kernel⟩
theorem ziX11_lineLine : zI yX11_lineLine := ⟨zm6 (i := 11) rfl rfl, zms (List.mem_of_getElem? (i := 46) rfl) rfl⟩
theorem zcX11_span : zC yX11_span cX11_span 5 (some .boolean) 3 := ⟨zm6 (i := 23) rfl rfl, zm1 (i := 11) rfl rfl, by decide +kernel⟩
theorem ziX11_span : zI yX11_span := ⟨zm6 (i := 22) rfl rfl, zms (List.mem_of_getElem? (i := 48) rfl) rfl⟩
theorem zcX11_statement : zC yX11_statement cX11_statement 1 (some .boolean) 0 := ⟨zm5 (i := 228) rfl rfl, zm1 (i := 11) rfl rfl, by decide +kernel⟩
theorem ziX11_statement : zI yX11_statement := ⟨zm5 (i := 227) rfl rfl, zms (List.mem_of_getElem? (i := 41) rfl) rfl⟩
theorem zcX11_closes : zC yX11_closes cX11_closes 1 (some .boolean) 0 := ⟨zm6 (i := 28) rfl rfl, zm1 (i := 11) rfl rfl, by decide +kernel⟩
theorem ziX11_closes : zI yX11_closes := ⟨zm6 (i := 27) rfl rfl, zms (List.mem_of_getElem? (i := 49) rfl) rfl⟩
theorem zcX11_parse : zC yX11_parse cX11_parse 3 (some .int) 1 := ⟨zm5 (i := 209) rfl rfl, zm1 (i := 11) rfl rfl, by decide +kernel⟩
theorem ziX11_parse : zI yX11_parse := ⟨zm5 (i := 207) rfl rfl, zm5 (i := 208) rfl rfl⟩
theorem zcX11_errorPosition : zC yX11_errorPosition cX11_errorPosition 1 (some .int) 0 := ⟨zm6 (i := 32) rfl rfl, zm1 (i := 11) rfl rfl, by decide +kernel⟩
theorem ziX11_errorPosition : zI yX11_errorPosition := ⟨zm6 (i := 30) rfl rfl, zm6 (i := 31) rfl rfl⟩
theorem zcX11_begins : zC yX11_begins cX11_begins 2 none 0 := ⟨zm5 (i := 103) rfl rfl, zm1 (i := 11) rfl rfl, by decide +kernel⟩
theorem ziX11_begins : zI yX11_begins := ⟨zm5 (i := 102) rfl rfl, zms (List.mem_of_getElem? (i := 36) rfl) rfl⟩
theorem zcX11_no : zC yX11_no cX11_no 3 (some .boolean) 2 := ⟨zm6 (i := 51) rfl rfl, zm1 (i := 11) rfl rfl, by decide +kernel⟩
theorem ziX11_no : zI yX11_no := ⟨zm6 (i := 50) rfl rfl, zms (List.mem_of_getElem? (i := 51) rfl) rfl⟩
theorem zcX11_noLine : zC yX11_noLine cX11_noLine 2 (some .boolean) 1 := ⟨zm6 (i := 47) rfl rfl, zm1 (i := 11) rfl rfl, by decide +kernel⟩
theorem ziX11_noLine : zI yX11_noLine := ⟨zm6 (i := 46) rfl rfl, zms (List.mem_of_getElem? (i := 50) rfl) rfl⟩
theorem zcX11_noPerson : zC yX11_noPerson cX11_noPerson 2 (some .boolean) 1 := ⟨zm6 (i := 81) rfl rfl, zm1 (i := 11) rfl rfl, by decide +kernel⟩
theorem ziX11_noPerson : zI yX11_noPerson := ⟨zm6 (i := 80) rfl rfl, zms (List.mem_of_getElem? (i := 54) rfl) rfl⟩
theorem zcX11_isIn : zC yX11_isIn cX11_isIn 2 (some .boolean) 2 := ⟨zm6 (i := 66) rfl rfl, zm1 (i := 11) rfl rfl, by decide +kernel⟩
theorem zsX11_isIn : Cond.static yX11_isIn ∈ zG := zm6 (i := 65) rfl rfl
theorem zcX11_many : zC yX11_many cX11_many 3 (some .int) 1 := ⟨zm6 (i := 39) rfl rfl, zm1 (i := 11) rfl rfl, by decide +kernel⟩
theorem zsX11_many : Cond.static yX11_many ∈ zG := zm6 (i := 38) rfl rfl
theorem zcX11_all : zC yX11_all cX11_all 1 (some .int) 0 := ⟨zm6 (i := 140) rfl rfl, zm1 (i := 11) rfl rfl, by decide +kernel⟩
theorem ziX11_all : zI yX11_all := ⟨zm6 (i := 139) rfl rfl, zms (List.mem_of_getElem? (i := 61) rfl) rfl⟩
theorem zcX11_size : zC yX11_size cX11_size 2 (some .int) 1 := ⟨zm6 (i := 36) rfl rfl, zm1 (i := 11) rfl rfl, by decide +kernel⟩
theorem ziX11_size : zI yX11_size := ⟨zm6 (i := 34) rfl rfl, zm6 (i := 35) rfl rfl⟩
theorem zcX11_brokenOf : zC yX11_brokenOf cX11_brokenOf 4 (some .int) 1 := ⟨zm6 (i := 55) rfl rfl, zm1 (i := 11) rfl rfl, by decide +kernel⟩
theorem ziX11_brokenOf : zI yX11_brokenOf := ⟨zm6 (i := 54) rfl rfl, zms (List.mem_of_getElem? (i := 52) rfl) rfl⟩
theorem zcX11_line : zC yX11_line cX11_line 3 (some .int) 2 := ⟨zm6 (i := 43) rfl rfl, zm1 (i := 11) rfl rfl, by decide +kernel⟩
theorem ziX11_line : zI yX11_line := ⟨zm6 (i := 41) rfl rfl, zm6 (i := 42) rfl rfl⟩
theorem zcX11_includes : zC yX11_includes cX11_includes 5 (some .boolean) 4 := ⟨zm6 (i := 69) rfl rfl, zm1 (i := 11) rfl rfl, by decide +kernel⟩
theorem zsX11_includes : Cond.static yX11_includes ∈ zG := zm6 (i := 68) rfl rfl
theorem zcX11_canCall : zC yX11_canCall cX11_canCall 3 (some .boolean) 2 := ⟨zm6 (i := 63) rfl rfl, zm1 (i := 11) rfl rfl, by decide +kernel⟩
theorem ziX11_canCall : zI yX11_canCall := ⟨zm6 (i := 62) rfl rfl, zms (List.mem_of_getElem? (i := 53) rfl) rfl⟩
theorem zcX11_isUsable : zC yX11_isUsable cX11_isUsable 3 (some .boolean) 2 := ⟨zm6 (i := 59) rfl rfl, zm1 (i := 11) rfl rfl, by decide +kernel⟩
theorem ziX11_isUsable : zI yX11_isUsable := ⟨zm6 (i := 57) rfl rfl, zm6 (i := 58) rfl rfl⟩
theorem zcX11_cheapestLine : zC yX11_cheapestLine cX11_cheapestLine 6 (some .int) 1 := ⟨zm6 (i := 73) rfl rfl, zm1 (i := 11) rfl rfl, by decide +kernel⟩
theorem ziX11_cheapestLine : zI yX11_cheapestLine := ⟨zm6 (i := 71) rfl rfl, zm6 (i := 72) rfl rfl⟩
theorem zcX11_known : zC yX11_known cX11_known 2 (some .int) 1 := ⟨zm6 (i := 77) rfl rfl, zm1 (i := 11) rfl rfl, by decide +kernel⟩
theorem ziX11_known : zI yX11_known := ⟨zm6 (i := 75) rfl rfl, zm6 (i := 76) rfl rfl⟩
theorem zcX11_knowersIn : zC yX11_knowersIn cX11_knowersIn 6 (some .int) 4 := ⟨zm6 (i := 92) rfl rfl, zm1 (i := 11) rfl rfl, by decide +kernel⟩
theorem zsX11_knowersIn : Cond.static yX11_knowersIn ∈ zG := zm6 (i := 91) rfl rfl
theorem zcX11_knowersOf : zC yX11_knowersOf cX11_knowersOf 2 (some .int) 1 := ⟨zm6 (i := 89) rfl rfl, zm1 (i := 11) rfl rfl, by decide +kernel⟩
theorem ziX11_knowersOf : zI yX11_knowersOf := ⟨zm6 (i := 88) rfl rfl, zms (List.mem_of_getElem? (i := 55) rfl) rfl⟩
theorem zcX11_knowers : zC yX11_knowers cX11_knowers 2 (some .int) 1 := ⟨zm6 (i := 85) rfl rfl, zm1 (i := 11) rfl rfl, by decide +kernel⟩
theorem ziX11_knowers : zI yX11_knowers := ⟨zm6 (i := 83) rfl rfl, zm6 (i := 84) rfl rfl⟩
theorem zcX11_missingIn : zC yX11_missingIn cX11_missingIn 5 (some .int) 2 := ⟨zm6 (i := 100) rfl rfl, zm1 (i := 11) rfl rfl, by decide +kernel⟩
theorem ziX11_missingIn : zI yX11_missingIn := ⟨zm6 (i := 99) rfl rfl, zms (List.mem_of_getElem? (i := 56) rfl) rfl⟩
theorem zcX11_missing : zC yX11_missing cX11_missing 1 (some .int) 0 := ⟨zm6 (i := 96) rfl rfl, zm1 (i := 11) rfl rfl, by decide +kernel⟩
theorem ziX11_missing : zI yX11_missing := ⟨zm6 (i := 94) rfl rfl, zm6 (i := 95) rfl rfl⟩
theorem zcX11_partner : zC yX11_partner cX11_partner 3 (some .int) 1 := ⟨zm6 (i := 104) rfl rfl, zm1 (i := 11) rfl rfl, by decide +kernel⟩
theorem ziX11_partner : zI yX11_partner := ⟨zm6 (i := 102) rfl rfl, zm6 (i := 103) rfl rfl⟩
theorem zcX11_arranged : zC yX11_arranged cX11_arranged 1 (some .int) 0 := ⟨zm6 (i := 108) rfl rfl, zm1 (i := 11) rfl rfl, by decide +kernel⟩
theorem ziX11_arranged : zI yX11_arranged := ⟨zm6 (i := 106) rfl rfl, zm6 (i := 107) rfl rfl⟩
theorem zcX11_gainOf : zC yX11_gainOf cX11_gainOf 6 (some .int) 3 := ⟨zm6 (i := 120) rfl rfl, zm1 (i := 11) rfl rfl, by decide +kernel⟩
theorem ziX11_gainOf : zI yX11_gainOf := ⟨zm6 (i := 119) rfl rfl, zms (List.mem_of_getElem? (i := 58) rfl) rfl⟩
theorem zcX11_gainNow : zC yX11_gainNow cX11_gainNow 3 (some .int) 0 := ⟨zm6 (i := 116) rfl rfl, zm1 (i := 11) rfl rfl, by decide +kernel⟩
theorem ziX11_gainNow : zI yX11_gainNow := ⟨zm6 (i := 115) rfl rfl, zms (List.mem_of_getElem? (i := 57) rfl) rfl⟩
theorem zcX11_gain : zC yX11_gain cX11_gain 1 (some .int) 0 := ⟨zm6 (i := 112) rfl rfl, zm1 (i := 11) rfl rfl, by decide +kernel⟩
theorem ziX11_gain : zI yX11_gain := ⟨zm6 (i := 110) rfl rfl, zm6 (i := 111) rfl rfl⟩
theorem zcX11_spent : zC yX11_spent cX11_spent 2 (some .int) 1 := ⟨zm6 (i := 124) rfl rfl, zm1 (i := 11) rfl rfl, by decide +kernel⟩
theorem ziX11_spent : zI yX11_spent := ⟨zm6 (i := 122) rfl rfl, zm6 (i := 123) rfl rfl⟩
theorem zcX11_costOf : zC yX11_costOf cX11_costOf 4 (some .int) 1 := ⟨zm6 (i := 147) rfl rfl, zm1 (i := 11) rfl rfl, by decide +kernel⟩
theorem ziX11_costOf : zI yX11_costOf := ⟨zm6 (i := 146) rfl rfl, zms (List.mem_of_getElem? (i := 62) rfl) rfl⟩
theorem zcX11_lowest : zC yX11_lowest cX11_lowest 2 (some .int) 1 := ⟨zm6 (i := 143) rfl rfl, zm1 (i := 11) rfl rfl, by decide +kernel⟩
theorem zsX11_lowest : Cond.static yX11_lowest ∈ zG := zm6 (i := 142) rfl rfl
theorem zcX11_bestFor : zC yX11_bestFor cX11_bestFor 10 (some .int) 3 := ⟨zm6 (i := 136) rfl rfl, zm1 (i := 11) rfl rfl, by decide +kernel⟩
theorem ziX11_bestFor : zI yX11_bestFor := ⟨zm6 (i := 135) rfl rfl, zms (List.mem_of_getElem? (i := 60) rfl) rfl⟩
theorem zcX11_bestNow : zC yX11_bestNow cX11_bestNow 1 (some .int) 0 := ⟨zm6 (i := 132) rfl rfl, zm1 (i := 11) rfl rfl, by decide +kernel⟩
theorem ziX11_bestNow : zI yX11_bestNow := ⟨zm6 (i := 131) rfl rfl, zms (List.mem_of_getElem? (i := 59) rfl) rfl⟩
theorem zcX11_best : zC yX11_best cX11_best 5 (some .int) 1 := ⟨zm6 (i := 128) rfl rfl, zm1 (i := 11) rfl rfl, by decide +kernel⟩
theorem ziX11_best : zI yX11_best := ⟨zm6 (i := 126) rfl rfl, zm6 (i := 127) rfl rfl⟩
theorem zcX11_thinks : zC yX11_thinks cX11_thinks 2 none 0 := ⟨zm6 (i := 155) rfl rfl, zm1 (i := 11) rfl rfl, by decide +kernel⟩
theorem ziX11_thinks : zI yX11_thinks := ⟨zm6 (i := 154) rfl rfl, zms (List.mem_of_getElem? (i := 63) rfl) rfl⟩
theorem zcX11_calls : zC yX11_calls cX11_calls 3 none 1 := ⟨zm6 (i := 159) rfl rfl, zm1 (i := 11) rfl rfl, by decide +kernel⟩
theorem ziX11_calls : zI yX11_calls := ⟨zm6 (i := 158) rfl rfl, zms (List.mem_of_getElem? (i := 64) rfl) rfl⟩
theorem zcX11_plan : zC yX11_plan cX11_plan 6 (some .int) 1 := ⟨zm6 (i := 151) rfl rfl, zm1 (i := 11) rfl rfl, by decide +kernel⟩
theorem ziX11_plan : zI yX11_plan := ⟨zm6 (i := 149) rfl rfl, zm6 (i := 150) rfl rfl⟩
theorem zcX11_isEnough : zC yX11_isEnough cX11_isEnough 3 (some .boolean) 1 := ⟨zm6 (i := 171) rfl rfl, zm1 (i := 11) rfl rfl, by decide +kernel⟩
theorem ziX11_isEnough : zI yX11_isEnough := ⟨zm6 (i := 170) rfl rfl, zms (List.mem_of_getElem? (i := 66) rfl) rfl⟩
theorem zcX11_canBe : zC yX11_canBe cX11_canBe 4 (some .boolean) 1 := ⟨zm6 (i := 175) rfl rfl, zm1 (i := 11) rfl rfl, by decide +kernel⟩
theorem ziX11_canBe : zI yX11_canBe := ⟨zm6 (i := 174) rfl rfl, zms (List.mem_of_getElem? (i := 67) rfl) rfl⟩
theorem zcX11_comes : zC yX11_comes cX11_comes 3 (some .boolean) 1 := ⟨zm6 (i := 167) rfl rfl, zm1 (i := 11) rfl rfl, by decide +kernel⟩
theorem ziX11_comes : zI yX11_comes := ⟨zm6 (i := 166) rfl rfl, zms (List.mem_of_getElem? (i := 65) rfl) rfl⟩
theorem zcX11_pairs : zC yX11_pairs cX11_pairs 13 (some .boolean) 3 := ⟨zm6 (i := 179) rfl rfl, zm1 (i := 11) rfl rfl, by decide +kernel⟩
theorem ziX11_pairs : zI yX11_pairs := ⟨zm6 (i := 178) rfl rfl, zms (List.mem_of_getElem? (i := 68) rfl) rfl⟩
theorem zcX11_waysOf : zC yX11_waysOf cX11_waysOf 8 (some .int) 3 := ⟨zm6 (i := 187) rfl rfl, zm1 (i := 11) rfl rfl, by decide +kernel⟩
theorem ziX11_waysOf : zI yX11_waysOf := ⟨zm6 (i := 186) rfl rfl, zms (List.mem_of_getElem? (i := 70) rfl) rfl⟩
theorem zcX11_isIdle : zC yX11_isIdle cX11_isIdle 5 (some .boolean) 2 := ⟨zm6 (i := 183) rfl rfl, zm1 (i := 11) rfl rfl, by decide +kernel⟩
theorem ziX11_isIdle : zI yX11_isIdle := ⟨zm6 (i := 182) rfl rfl, zms (List.mem_of_getElem? (i := 69) rfl) rfl⟩
theorem zcX11_fewest : zC yX11_fewest cX11_fewest 4 (some .int) 1 := ⟨zm6 (i := 163) rfl rfl, zm1 (i := 11) rfl rfl, by decide +kernel⟩
theorem ziX11_fewest : zI yX11_fewest := ⟨zm6 (i := 161) rfl rfl, zm6 (i := 162) rfl rfl⟩
theorem zcX11_doublings : zC yX11_doublings cX11_doublings 4 (some .int) 0 := ⟨zm6 (i := 191) rfl rfl, zm1 (i := 11) rfl rfl, by decide +kernel⟩
theorem ziX11_doublings : zI yX11_doublings := ⟨zm6 (i := 189) rfl rfl, zm6 (i := 190) rfl rfl⟩
theorem zcX11_usableIn : zC yX11_usableIn cX11_usableIn 4 (some .int) 1 := ⟨zm6 (i := 199) rfl rfl, zm1 (i := 11) rfl rfl, by decide +kernel⟩
theorem ziX11_usableIn : zI yX11_usableIn := ⟨zm6 (i := 198) rfl rfl, zms (List.mem_of_getElem? (i := 71) rfl) rfl⟩
theorem zcX11_soonest : zC yX11_soonest cX11_soonest 4 (some .int) 2 := ⟨zm6 (i := 195) rfl rfl, zm1 (i := 11) rfl rfl, by decide +kernel⟩
theorem ziX11_soonest : zI yX11_soonest := ⟨zm6 (i := 193) rfl rfl, zm6 (i := 194) rfl rfl⟩
theorem zcX11_prices : zC yX11_prices cX11_prices 5 none 2 := ⟨zm6 (i := 207) rfl rfl, zm1 (i := 11) rfl rfl, by decide +kernel⟩
theorem ziX11_prices : zI yX11_prices := ⟨zm6 (i := 206) rfl rfl, zms (List.mem_of_getElem? (i := 72) rfl) rfl⟩
theorem zcX11_cheaper : zC yX11_cheaper cX11_cheaper 4 (some .boolean) 3 := ⟨zm6 (i := 212) rfl rfl, zm1 (i := 11) rfl rfl, by decide +kernel⟩
theorem ziX11_cheaper : zI yX11_cheaper := ⟨zm6 (i := 211) rfl rfl, zms (List.mem_of_getElem? (i := 73) rfl) rfl⟩
theorem zcX11_cheapest : zC yX11_cheapest cX11_cheapest 3 (some .int) 2 := ⟨zm6 (i := 203) rfl rfl, zm1 (i := 11) rfl rfl, by decide +kernel⟩
theorem ziX11_cheapest : zI yX11_cheapest := ⟨zm6 (i := 201) rfl rfl, zm6 (i := 202) rfl rfl⟩
theorem zcX11_comeAbout : zC yX11_comeAbout cX11_comeAbout 5 (some .int) 1 := ⟨zm6 (i := 220) rfl rfl, zm1 (i := 11) rfl rfl, by decide +kernel⟩
theorem ziX11_comeAbout : zI yX11_comeAbout := ⟨zm6 (i := 219) rfl rfl, zms (List.mem_of_getElem? (i := 74) rfl) rfl⟩
theorem zcX11_vital : zC yX11_vital cX11_vital 4 (some .int) 0 := ⟨zm6 (i := 216) rfl rfl, zm1 (i := 11) rfl rfl, by decide +kernel⟩
theorem ziX11_vital : zI yX11_vital := ⟨zm6 (i := 214) rfl rfl, zm6 (i := 215) rfl rfl⟩
theorem zcX11_canArrange : zC yX11_canArrange cX11_canArrange 3 (some .boolean) 1 := ⟨zm6 (i := 228) rfl rfl, zm1 (i := 11) rfl rfl, by decide +kernel⟩
theorem ziX11_canArrange : zI yX11_canArrange := ⟨zm6 (i := 227) rfl rfl, zms (List.mem_of_getElem? (i := 75) rfl) rfl⟩
theorem zcX11_arrange : zC yX11_arrange cX11_arrange 2 (some .int) 1 := ⟨zm6 (i := 224) rfl rfl, zm1 (i := 11) rfl rfl, by decide +kernel⟩
theorem ziX11_arrange : zI yX11_arrange := ⟨zm6 (i := 222) rfl rfl, zm6 (i := 223) rfl rfl⟩
theorem zcX11_takeBack : zC yX11_takeBack cX11_takeBack 2 (some .int) 1 := ⟨zm6 (i := 239) rfl rfl, zm1 (i := 11) rfl rfl, by decide +kernel⟩
theorem ziX11_takeBack : zI yX11_takeBack := ⟨zm6 (i := 237) rfl rfl, zm6 (i := 238) rfl rfl⟩
theorem zcX11_arrangeBest : zC yX11_arrangeBest cX11_arrangeBest 1 (some .int) 0 := ⟨zm7 (i := 3) rfl rfl, zm1 (i := 11) rfl rfl, by decide +kernel⟩
theorem ziX11_arrangeBest : zI yX11_arrangeBest := ⟨zm7 (i := 1) rfl rfl, zm7 (i := 2) rfl rfl⟩
theorem zcX11_ring : zC yX11_ring cX11_ring 4 (some .int) 0 := ⟨zm7 (i := 7) rfl rfl, zm1 (i := 11) rfl rfl, by decide +kernel⟩
theorem ziX11_ring : zI yX11_ring := ⟨zm7 (i := 5) rfl rfl, zm7 (i := 6) rfl rfl⟩
theorem zcX11_cut : zC yX11_cut cX11_cut 3 (some .boolean) 1 := ⟨zm7 (i := 11) rfl rfl, zm1 (i := 11) rfl rfl, by decide +kernel⟩
theorem ziX11_cut : zI yX11_cut := ⟨zm7 (i := 9) rfl rfl, zm7 (i := 10) rfl rfl⟩
theorem zcX11_mend : zC yX11_mend cX11_mend 2 (some .int) 1 := ⟨zm7 (i := 15) rfl rfl, zm1 (i := 11) rfl rfl, by decide +kernel⟩
theorem ziX11_mend : zI yX11_mend := ⟨zm7 (i := 13) rfl rfl, zm7 (i := 14) rfl rfl⟩
theorem zcX11_tell : zC yX11_tell cX11_tell 3 (some .int) 2 := ⟨zm7 (i := 19) rfl rfl, zm1 (i := 11) rfl rfl, by decide +kernel⟩
theorem ziX11_tell : zI yX11_tell := ⟨zm7 (i := 17) rfl rfl, zm7 (i := 18) rfl rfl⟩
theorem zcX11_copies : zC yX11_copies cX11_copies 6 none 5 := ⟨zm6 (i := 235) rfl rfl, zm1 (i := 11) rfl rfl, by decide +kernel⟩
theorem zsX11_copies : Cond.static yX11_copies ∈ zG := zm6 (i := 234) rfl rfl
theorem zcX11_keeps : zC yX11_keeps cX11_keeps 1 none 0 := ⟨zm6 (i := 232) rfl rfl, zm1 (i := 11) rfl rfl, by decide +kernel⟩
theorem ziX11_keeps : zI yX11_keeps := ⟨zm6 (i := 231) rfl rfl, zms (List.mem_of_getElem? (i := 76) rfl) rfl⟩
theorem zcX11_undo : zC yX11_undo cX11_undo 1 (some .int) 0 := ⟨zm7 (i := 23) rfl rfl, zm1 (i := 11) rfl rfl, by decide +kernel⟩
theorem ziX11_undo : zI yX11_undo := ⟨zm7 (i := 21) rfl rfl, zm7 (i := 22) rfl rfl⟩
theorem zcX11_noSlot : zC yX11_noSlot cX11_noSlot 2 (some .boolean) 1 := ⟨zm7 (i := 31) rfl rfl, zm1 (i := 11) rfl rfl, by decide +kernel⟩
theorem ziX11_noSlot : zI yX11_noSlot := ⟨zm7 (i := 30) rfl rfl, zms (List.mem_of_getElem? (i := 77) rfl) rfl⟩
theorem zcX11_saveSnapshot : zC yX11_saveSnapshot cX11_saveSnapshot 3 (some .boolean) 1 := ⟨zm7 (i := 27) rfl rfl, zm1 (i := 11) rfl rfl, by decide +kernel⟩
theorem ziX11_saveSnapshot : zI yX11_saveSnapshot := ⟨zm7 (i := 25) rfl rfl, zm7 (i := 26) rfl rfl⟩
theorem zcX11_restoreSnapshot : zC yX11_restoreSnapshot cX11_restoreSnapshot 2 (some .int) 1 := ⟨zm7 (i := 35) rfl rfl, zm1 (i := 11) rfl rfl, by decide +kernel⟩
theorem ziX11_restoreSnapshot : zI yX11_restoreSnapshot := ⟨zm7 (i := 33) rfl rfl, zm7 (i := 34) rfl rfl⟩
theorem zcJ6_bitCount_0f7a4 : zC yJ6_bitCount_0f7a4 cJ6_bitCount_0f7a4 1 (some .int) 1 := ⟨zm2 (i := 114) rfl rfl, zm1 (i := 21) rfl rfl, by decide +kernel⟩
theorem zsJ6_bitCount_0f7a4 : Cond.static yJ6_bitCount_0f7a4 ∈ zG := zm2 (i := 113) rfl rfl
theorem zcJ9_max_7cf53 : zC yJ9_max_7cf53 cJ9_max_7cf53 2 (some .int) 2 := ⟨zm2 (i := 157) rfl rfl, zm1 (i := 16) rfl rfl, by decide +kernel⟩
theorem zsJ9_max_7cf53 : Cond.static yJ9_max_7cf53 ∈ zG := zm2 (i := 156) rfl rfl
theorem zcJ9_max_f86c9 : zC yJ9_max_f86c9 cJ9_max_f86c9 4 (some .long) 2 := ⟨zm2 (i := 239) rfl rfl, zm1 (i := 16) rfl rfl, by decide +kernel⟩
theorem zsJ9_max_f86c9 : Cond.static yJ9_max_f86c9 ∈ zG := zm2 (i := 238) rfl rfl
theorem zcJ9_min_7cf53 : zC yJ9_min_7cf53 cJ9_min_7cf53 2 (some .int) 2 := ⟨zm2 (i := 201) rfl rfl, zm1 (i := 16) rfl rfl, by decide +kernel⟩
theorem zsJ9_min_7cf53 : Cond.static yJ9_min_7cf53 ∈ zG := zm2 (i := 200) rfl rfl
theorem zcJ0_length_8abf5 : zC yJ0_length_8abf5 cJ0_length_8abf5 1 (some .int) 0 := ⟨zm3 (i := 130) rfl rfl, zm1 (i := 17) rfl rfl, by decide +kernel⟩
theorem ziJ0_length_8abf5 : zI yJ0_length_8abf5 := ⟨zm3 (i := 128) rfl rfl, zm3 (i := 129) rfl rfl⟩
theorem zcJ0_charAt_5068e : zC yJ0_charAt_5068e cJ0_charAt_5068e 2 (some .char) 1 := ⟨zm3 (i := 140) rfl rfl, zm1 (i := 17) rfl rfl, by decide +kernel⟩
theorem ziJ0_charAt_5068e : zI yJ0_charAt_5068e := ⟨zm3 (i := 138) rfl rfl, zm3 (i := 139) rfl rfl⟩
theorem zcJ0_coder_7d493 : zC yJ0_coder_7d493 cJ0_coder_7d493 1 (some .byte) 0 := ⟨zm3 (i := 134) rfl rfl, zm1 (i := 17) rfl rfl, by decide +kernel⟩
theorem ziJ0_coder_7d493 : zI yJ0_coder_7d493 := ⟨zm3 (i := 132) rfl rfl, zm3 (i := 133) rfl rfl⟩
theorem zcJ0_isLatin1_aae02 : zC yJ0_isLatin1_aae02 cJ0_isLatin1_aae02 1 (some .boolean) 0 := ⟨zm3 (i := 144) rfl rfl, zm1 (i := 17) rfl rfl, by decide +kernel⟩
theorem ziJ0_isLatin1_aae02 : zI yJ0_isLatin1_aae02 := ⟨zm3 (i := 142) rfl rfl, zm3 (i := 143) rfl rfl⟩
theorem zcJ0_checkIndex_df160 : zC yJ0_checkIndex_df160 cJ0_checkIndex_df160 2 none 2 := ⟨zm3 (i := 150) rfl rfl, zm1 (i := 17) rfl rfl, by decide +kernel⟩
theorem zsJ0_checkIndex_df160 : Cond.static yJ0_checkIndex_df160 ∈ zG := zm3 (i := 149) rfl rfl
theorem zcJ1_charAt_3b067 : zC yJ1_charAt_3b067 cJ1_charAt_3b067 2 (some .char) 2 := ⟨zm3 (i := 147) rfl rfl, zm1 (i := 18) rfl rfl, by decide +kernel⟩
theorem zsJ1_charAt_3b067 : Cond.static yJ1_charAt_3b067 ∈ zG := zm3 (i := 146) rfl rfl
theorem zcJ2_getChar_3b067 : zC yJ2_getChar_3b067 cJ2_getChar_3b067 2 (some .char) 2 := ⟨zm3 (i := 168) rfl rfl, zm1 (i := 20) rfl rfl, by decide +kernel⟩
theorem zsJ2_getChar_3b067 : Cond.static yJ2_getChar_3b067 ∈ zG := zm3 (i := 167) rfl rfl
theorem zcJ2_length_9d52b : zC yJ2_length_9d52b cJ2_length_9d52b 1 (some .int) 1 := ⟨zm3 (i := 164) rfl rfl, zm1 (i := 20) rfl rfl, by decide +kernel⟩
theorem zsJ2_length_9d52b : Cond.static yJ2_length_9d52b ∈ zG := zm3 (i := 163) rfl rfl
theorem zcJ2_charAt_3b067 : zC yJ2_charAt_3b067 cJ2_charAt_3b067 2 (some .char) 2 := ⟨zm3 (i := 158) rfl rfl, zm1 (i := 20) rfl rfl, by decide +kernel⟩
theorem zsJ2_charAt_3b067 : Cond.static yJ2_charAt_3b067 ∈ zG := zm3 (i := 157) rfl rfl
theorem zcJ2_checkIndex_2214a : zC yJ2_checkIndex_2214a cJ2_checkIndex_2214a 2 none 2 := ⟨zm3 (i := 161) rfl rfl, zm1 (i := 20) rfl rfl, by decide +kernel⟩
theorem zsJ2_checkIndex_2214a : Cond.static yJ2_checkIndex_2214a ∈ zG := zm3 (i := 160) rfl rfl
theorem zcJ3_checkIndex_8e157 : zC yJ3_checkIndex_8e157 cJ3_checkIndex_8e157 3 (some .int) 3 := ⟨zm3 (i := 155) rfl rfl, zm1 (i := 19) rfl rfl, by decide +kernel⟩
theorem zsJ3_checkIndex_8e157 : Cond.static yJ3_checkIndex_8e157 ∈ zG := zm3 (i := 154) rfl rfl
theorem zmX10_32 : zMl RX10 32 yX2_init := Or.inl (zm1 (i := 202) rfl rfl)
theorem zmX10_61 : zMl RX10 61 yX6_init := Or.inl (zm2 (i := 20) rfl rfl)
theorem zmX10_74 : zMl RX10 74 yX7_begin := Or.inl (zm2 (i := 45) rfl rfl)
theorem zmX10_81 : zMl RX10 81 yX9_putFourBytes := Or.inl (zm2 (i := 88) rfl rfl)
theorem zmX10_91 : zMl RX10 91 yX9_readExchange := Or.inl (zm3 (i := 93) rfl rfl)
theorem zmX10_95 : zMl RX10 95 yX9_handOver := Or.inl (zm3 (i := 222) rfl rfl)
theorem zmX10_99 : zMl RX10 99 yX10_startAnew := Or.inl (zm3 (i := 226) rfl rfl)
theorem zmX10_102 : zMl RX10 102 yX2_forget := Or.inl (zm3 (i := 230) rfl rfl)
theorem zmX10_120 : zMl RX10 120 yJ6_bitCount_0f7a4 := Or.inl (zm4 (i := 1) rfl rfl)
theorem zmX10_130 : zMl RX10 130 yX10_requireLine := Or.inl (zm4 (i := 11) rfl rfl)
theorem zmX10_149 : zMl RX10 149 yX8_countOf := Or.inl (zm4 (i := 31) rfl rfl)
theorem zmX10_158 : zMl RX10 158 yX10_usableLines := Or.inl (zm2 (i := 206) rfl rfl)
theorem zmX10_161 : zMl RX10 161 yX10_isIn := Or.inl (zm4 (i := 44) rfl rfl)
theorem zmX10_165 : zMl RX10 165 yX1_placeByCost := Or.inl (zm2 (i := 100) rfl rfl)
theorem zmX10_168 : zMl RX10 168 yX10_requirePerson := Or.inl (zm4 (i := 52) rfl rfl)
theorem zmX10_180 : zMl RX10 180 yX3_knowersOf := Or.inl (zm2 (i := 170) rfl rfl)
theorem zmX10_183 : zMl RX10 183 yX3_missingPieces := Or.inl (zm2 (i := 108) rfl rfl)
theorem zmX10_187 : zMl RX10 187 yX1_otherPerson := Or.inl (zm4 (i := 71) rfl rfl)
theorem zmX10_191 : zMl RX10 191 yX1_gainOf := Or.inl (zm2 (i := 126) rfl rfl)
theorem zmX10_197 : zMl RX10 197 yX7_spentUpTo := Or.inl (zm4 (i := 83) rfl rfl)
theorem zmX10_202 : zMl RX10 202 yX10_bestOfNextRound := Or.inl (zm2 (i := 202) rfl rfl)
theorem zmX10_205 : zMl RX10 205 yX1_costOf := Or.inl (zm4 (i := 95) rfl rfl)
theorem zmX10_208 : zMl RX10 208 yX0_find := Or.inl (zm2 (i := 219) rfl rfl)
theorem zmX10_214 : zMl RX10 214 yX4_make := Or.inl (zm4 (i := 107) rfl rfl)
theorem zmX10_230 : zMl RX10 230 yX6_find := Or.inl (zm4 (i := 146) rfl rfl)
theorem zmX10_233 : zMl RX10 233 yX3_neededDoublings := Or.inl (zm2 (i := 142) rfl rfl)
theorem zmX10_236 : zMl RX10 236 yX1_spread := Or.inl (zm4 (i := 198) rfl rfl)
theorem zmX10_239 : zMl RX10 239 yX10_uncutLines := Or.inl (zm2 (i := 162) rfl rfl)
theorem zmX10_242 : zMl RX10 242 yX1_fillLeastCosts := Or.inl (zm4 (i := 206) rfl rfl)
theorem zmX10_246 : zMl RX10 246 yX1_neededLines := Or.inl (zm2 (i := 171) rfl rfl)
theorem zmX10_251 : zMl RX10 251 yX10_canArrange := Or.inl (zm4 (i := 227) rfl rfl)
theorem zmX10_257 : zMl RX10 257 yX2_remember := Or.inl (zm2 (i := 187) rfl rfl)
theorem zmX10_261 : zMl RX10 261 yX10_gain := Or.inl (zm3 (i := 9) rfl rfl)
theorem zmX10_264 : zMl RX10 264 yX1_personsOf := Or.inl (zm4 (i := 231) rfl rfl)
theorem zmX10_271 : zMl RX10 271 yX1_makeCalls := Or.inl (zm5 (i := 12) rfl rfl)
theorem zmX10_275 : zMl RX10 275 yX7_endRound := Or.inl (zm5 (i := 13) rfl rfl)
theorem zmX10_284 : zMl RX10 284 yX2_stepBack := Or.inl (zm3 (i := 14) rfl rfl)
theorem zmX10_288 : zMl RX10 288 yX10_requireSlot := Or.inl (zm5 (i := 69) rfl rfl)
theorem zmX10_291 : zMl RX10 291 yX7_copyFrom := Or.inl (zm5 (i := 74) rfl rfl)
theorem zmX10_305 : zMl RX10 305 yX1_allLines := Or.inl (zm2 (i := 166) rfl rfl)
theorem zmX10_308 : zMl RX10 308 yX1_openLines := Or.inl (zm2 (i := 210) rfl rfl)
theorem zmX0_18 : zMl RX0 18 yX0_rankPairs := Or.inl (zm2 (i := 223) rfl rfl)
theorem zmX0_28 : zMl RX0 28 yX0_admit := Or.inl (zm3 (i := 0) rfl rfl)
theorem zmX0_41 : zMl RX0 41 yX1_gainOfLine := Or.inl (zm2 (i := 228) rfl rfl)
theorem zmX0_52 : zMl RX0 52 yX0_pairOf := Or.inl (zm2 (i := 229) rfl rfl)
theorem zmX0_59 : zMl RX0 59 yX0_worth := Or.inl (zm2 (i := 234) rfl rfl)
theorem zmX0_63 : zMl RX0 63 yJ9_max_f86c9 := Or.inl (zm2 (i := 237) rfl rfl)
theorem zmX0_69 : zMl RX0 69 yJ9_max_7cf53 := Or.inl (zm2 (i := 232) rfl rfl)
theorem zmX0_71 : zMl RX0 71 yJ9_min_7cf53 := Or.inl (zm2 (i := 233) rfl rfl)
theorem zmX0_74 : zMl RX0 74 yX0_admitWith := Or.inl (zm3 (i := 4) rfl rfl)
theorem zmX1_42 : zMl RX1 42 yX8_clear := Or.inl (zm3 (i := 102) rfl rfl)
theorem zmX1_45 : zMl RX1 45 yX1_isFull := Or.inl (zm3 (i := 206) rfl rfl)
theorem zmX1_49 : zMl RX1 49 yX8_keptOut := Or.inl (zm2 (i := 214) rfl rfl)
theorem zmX1_53 : zMl RX1 53 yX1_allLines := Or.inl (zm2 (i := 218) rfl rfl)
theorem zmX1_66 : zMl RX1 66 yJ6_bitCount_0f7a4 := Or.inl (zm2 (i := 137) rfl rfl)
theorem zmX1_71 : zMl RX1 71 yX1_gainOfLine := Or.inl (zm2 (i := 133) rfl rfl)
theorem zmX1_75 : zMl RX1 75 yX1_spread := Or.inl (zm2 (i := 179) rfl rfl)
theorem zmX1_79 : zMl RX1 79 yX1_reached := Or.inl (zm2 (i := 175) rfl rfl)
theorem zmX1_83 : zMl RX1 83 yX1_lowerCosts := Or.inl (zm4 (i := 211) rfl rfl)
theorem zmX1_87 : zMl RX1 87 yX1_added := Or.inl (zm4 (i := 215) rfl rfl)
theorem zmX1_90 : zMl RX1 90 yJ9_min_7cf53 := Or.inl (zm4 (i := 218) rfl rfl)
theorem zmX2_25 : zMl RX2 25 yX7_copyFrom := Or.inl (zm2 (i := 191) rfl rfl)
theorem zmX2_29 : zMl RX2 29 yJ9_min_7cf53 := Or.inl (zm2 (i := 199) rfl rfl)
theorem zmX3_23 : zMl RX3 23 yJ6_bitCount_0f7a4 := Or.inl (zm2 (i := 112) rfl rfl)
theorem zmX3_29 : zMl RX3 29 yX3_knowersOf := Or.inl (zm2 (i := 146) rfl rfl)
theorem zmX3_32 : zMl RX3 32 yX3_doublingsFrom := Or.inl (zm2 (i := 151) rfl rfl)
theorem zmX3_35 : zMl RX3 35 yJ9_max_7cf53 := Or.inl (zm2 (i := 155) rfl rfl)
theorem zmX4_31 : zMl RX4 31 yX3_copyFrom := Or.inl (zm4 (i := 111) rfl rfl)
theorem zmX4_35 : zMl RX4 35 yX3_missingPieces := Or.inl (zm4 (i := 112) rfl rfl)
theorem zmX4_40 : zMl RX4 40 yX1_openLines := Or.inl (zm4 (i := 113) rfl rfl)
theorem zmX4_49 : zMl RX4 49 yX0_find := Or.inl (zm4 (i := 114) rfl rfl)
theorem zmX4_55 : zMl RX4 55 yX1_makeCalls := Or.inl (zm4 (i := 115) rfl rfl)
theorem zmX4_59 : zMl RX4 59 yJ6_bitCount_0f7a4 := Or.inl (zm4 (i := 119) rfl rfl)
theorem zmX4_64 : zMl RX4 64 yX1_costOf := Or.inl (zm4 (i := 120) rfl rfl)
theorem zmX6_36 : zMl RX6 36 yJ9_min_7cf53 := Or.inl (zm4 (i := 150) rfl rfl)
theorem zmX6_48 : zMl RX6 48 yX3_copyFrom := Or.inl (zm4 (i := 151) rfl rfl)
theorem zmX6_55 : zMl RX6 55 yX1_openLines := Or.inl (zm4 (i := 152) rfl rfl)
theorem zmX6_62 : zMl RX6 62 yX6_connect := Or.inl (zm4 (i := 153) rfl rfl)
theorem zmX6_66 : zMl RX6 66 yX6_canEnd := Or.inl (zm4 (i := 158) rfl rfl)
theorem zmX6_88 : zMl RX6 88 yX3_neededDoublings := Or.inl (zm4 (i := 162) rfl rfl)
theorem zmX6_92 : zMl RX6 92 yX6_allCanLearnTheRest := Or.inl (zm4 (i := 163) rfl rfl)
theorem zmX6_95 : zMl RX6 95 yX6_pairUp := Or.inl (zm4 (i := 171) rfl rfl)
theorem zmX6_99 : zMl RX6 99 yX6_canLearnTheRest := Or.inl (zm4 (i := 167) rfl rfl)
theorem zmX6_105 : zMl RX6 105 yX6_tryPair := Or.inl (zm4 (i := 175) rfl rfl)
theorem zmX6_109 : zMl RX6 109 yX6_tryAlone := Or.inl (zm4 (i := 183) rfl rfl)
theorem zmX6_112 : zMl RX6 112 yX6_goOn := Or.inl (zm4 (i := 179) rfl rfl)
theorem zmX6_115 : zMl RX6 115 yX6_couldCall := Or.inl (zm4 (i := 187) rfl rfl)
theorem zmX7_35 : zMl RX7 35 yX3_begin := Or.inl (zm2 (i := 49) rfl rfl)
theorem zmX7_39 : zMl RX7 39 yX3_copyFrom := Or.inl (zm2 (i := 195) rfl rfl)
theorem zmX7_43 : zMl RX7 43 yJ6_bitCount_0f7a4 := Or.inl (zm5 (i := 17) rfl rfl)
theorem zmX7_51 : zMl RX7 51 yX7_spentUpTo := Or.inl (zm5 (i := 20) rfl rfl)
theorem zmX7_54 : zMl RX7 54 yX5_init := Or.inl (zm5 (i := 21) rfl rfl)
theorem zmX8_25 : zMl RX8 25 yX8_isFull := Or.inl (zm3 (i := 220) rfl rfl)
theorem zmX9_47 : zMl RX9 47 yJ9_min_7cf53 := Or.inl (zm3 (i := 97) rfl rfl)
theorem zmX9_53 : zMl RX9 53 yX1_clear := Or.inl (zm3 (i := 98) rfl rfl)
theorem zmX9_56 : zMl RX9 56 yX9_nextToken := Or.inl (zm3 (i := 106) rfl rfl)
theorem zmX9_59 : zMl RX9 59 yX9_readStatement := Or.inl (zm3 (i := 118) rfl rfl)
theorem zmX9_65 : zMl RX9 65 yX9_isWord := Or.inl (zm3 (i := 123) rfl rfl)
theorem zmX9_69 : zMl RX9 69 yX9_readPeople := Or.inl (zm3 (i := 175) rfl rfl)
theorem zmX9_74 : zMl RX9 74 yX9_readLine := Or.inl (zm3 (i := 192) rfl rfl)
theorem zmX9_87 : zMl RX9 87 yX9_readSpan := Or.inl (zm3 (i := 208) rfl rfl)
theorem zmX9_98 : zMl RX9 98 yX9_fail := Or.inl (zm3 (i := 179) rfl rfl)
theorem zmX9_102 : zMl RX9 102 yX9_readNumber := Or.inl (zm3 (i := 183) rfl rfl)
theorem zmX9_106 : zMl RX9 106 yX9_readSemicolon := Or.inl (zm3 (i := 187) rfl rfl)
theorem zmX9_109 : zMl RX9 109 yX1_isFull := Or.inl (zm3 (i := 196) rfl rfl)
theorem zmX9_116 : zMl RX9 116 yX1_addLine := Or.inl (zm3 (i := 202) rfl rfl)
theorem zmX9_120 : zMl RX9 120 yX8_isFull := Or.inl (zm3 (i := 212) rfl rfl)
theorem zmX9_123 : zMl RX9 123 yX8_add := Or.inl (zm3 (i := 216) rfl rfl)
theorem zmX9_127 : zMl RX9 127 yJ0_length_8abf5 := Or.inl (zm3 (i := 127) rfl rfl)
theorem zmX9_132 : zMl RX9 132 yJ0_charAt_5068e := Or.inl (zm3 (i := 137) rfl rfl)
theorem zmX9_136 : zMl RX9 136 yX9_skipSeparators := Or.inl (zm3 (i := 110) rfl rfl)
theorem zmX9_139 : zMl RX9 139 yX9_takeRun := Or.inl (zm3 (i := 114) rfl rfl)
theorem zmL_7 : zMl RL 7 yX10_parse := Or.inl (zm3 (i := 22) rfl rfl)
theorem zmL_15 : zMl RL 15 yX10_size := Or.inl (zm3 (i := 237) rfl rfl)
theorem zmL_18 : zMl RL 18 yX10_line := Or.inl (zm4 (i := 7) rfl rfl)
theorem zmL_24 : zMl RL 24 yX10_isUsable := Or.inl (zm4 (i := 39) rfl rfl)
theorem zmL_28 : zMl RL 28 yX10_known := Or.inl (zm4 (i := 48) rfl rfl)
theorem zmL_31 : zMl RL 31 yX10_knowers := Or.inl (zm4 (i := 60) rfl rfl)
theorem zmL_34 : zMl RL 34 yX10_partner := Or.inl (zm4 (i := 67) rfl rfl)
theorem zmL_37 : zMl RL 37 yX10_spent := Or.inl (zm4 (i := 78) rfl rfl)
theorem zmL_40 : zMl RL 40 yX10_best := Or.inl (zm4 (i := 90) rfl rfl)
theorem zmL_43 : zMl RL 43 yX10_plan := Or.inl (zm4 (i := 102) rfl rfl)
theorem zmL_46 : zMl RL 46 yX10_fewest := Or.inl (zm4 (i := 125) rfl rfl)
theorem zmL_51 : zMl RL 51 yX10_soonest := Or.inl (zm4 (i := 194) rfl rfl)
theorem zmL_54 : zMl RL 54 yX10_cheapest := Or.inl (zm4 (i := 202) rfl rfl)
theorem zmL_57 : zMl RL 57 yX10_arrange := Or.inl (zm4 (i := 222) rfl rfl)
theorem zmL_60 : zMl RL 60 yX10_takeBack := Or.inl (zm4 (i := 239) rfl rfl)
theorem zmL_63 : zMl RL 63 yX10_ring := Or.inl (zm5 (i := 7) rfl rfl)
theorem zmL_67 : zMl RL 67 yX10_cut := Or.inl (zm5 (i := 41) rfl rfl)
theorem zmL_71 : zMl RL 71 yX10_mend := Or.inl (zm5 (i := 49) rfl rfl)
theorem zmL_74 : zMl RL 74 yX10_tell := Or.inl (zm5 (i := 57) rfl rfl)
theorem zmL_77 : zMl RL 77 yX10_saveSnapshot := Or.inl (zm5 (i := 65) rfl rfl)
theorem zmL_80 : zMl RL 80 yX10_restoreSnapshot := Or.inl (zm5 (i := 78) rfl rfl)
theorem zmL_83 : zMl RL 83 yX10_init := Or.inl (zm1 (i := 27) rfl rfl)
theorem zmL_86 : zMl RL 86 yX11_init := Or.inl (zm5 (i := 85) rfl rfl)
theorem zmL_87 : zMl RL 87 yX10_append := Or.inl (zm2 (i := 84) rfl rfl)
theorem zmL_91 : zMl RL 91 yX11_append := Or.inl (zm5 (i := 198) rfl rfl)
theorem zmL_92 : zMl RL 92 yL_parse := Or.inl (zm3 (i := 18) rfl rfl)
theorem zmL_97 : zMl RL 97 yX11_parse := Or.inl (zm5 (i := 206) rfl rfl)
theorem zmL_98 : zMl RL 98 yX10_errorPosition := Or.inl (zm2 (i := 92) rfl rfl)
theorem zmL_101 : zMl RL 101 yX11_errorPosition := Or.inl (zm6 (i := 29) rfl rfl)
theorem zmL_102 : zMl RL 102 yL_size := Or.inl (zm3 (i := 234) rfl rfl)
theorem zmL_104 : zMl RL 104 yX11_size := Or.inl (zm6 (i := 33) rfl rfl)
theorem zmL_105 : zMl RL 105 yL_line := Or.inl (zm4 (i := 3) rfl rfl)
theorem zmL_108 : zMl RL 108 yX11_line := Or.inl (zm6 (i := 40) rfl rfl)
theorem zmL_109 : zMl RL 109 yL_isUsable := Or.inl (zm4 (i := 36) rfl rfl)
theorem zmL_111 : zMl RL 111 yX11_isUsable := Or.inl (zm6 (i := 56) rfl rfl)
theorem zmL_112 : zMl RL 112 yX10_cheapestLine := Or.inl (zm2 (i := 96) rfl rfl)
theorem zmL_115 : zMl RL 115 yX11_cheapestLine := Or.inl (zm6 (i := 70) rfl rfl)
theorem zmL_116 : zMl RL 116 yL_known := Or.inl (zm4 (i := 45) rfl rfl)
theorem zmL_118 : zMl RL 118 yX11_known := Or.inl (zm6 (i := 74) rfl rfl)
theorem zmL_119 : zMl RL 119 yL_knowers := Or.inl (zm4 (i := 57) rfl rfl)
theorem zmL_121 : zMl RL 121 yX11_knowers := Or.inl (zm6 (i := 82) rfl rfl)
theorem zmL_122 : zMl RL 122 yX10_missing := Or.inl (zm2 (i := 104) rfl rfl)
theorem zmL_125 : zMl RL 125 yX11_missing := Or.inl (zm6 (i := 93) rfl rfl)
theorem zmL_126 : zMl RL 126 yL_partner := Or.inl (zm4 (i := 64) rfl rfl)
theorem zmL_128 : zMl RL 128 yX11_partner := Or.inl (zm6 (i := 101) rfl rfl)
theorem zmL_129 : zMl RL 129 yX10_arranged := Or.inl (zm2 (i := 118) rfl rfl)
theorem zmL_132 : zMl RL 132 yX11_arranged := Or.inl (zm6 (i := 105) rfl rfl)
theorem zmL_133 : zMl RL 133 yX10_gain := Or.inl (zm2 (i := 122) rfl rfl)
theorem zmL_136 : zMl RL 136 yX11_gain := Or.inl (zm6 (i := 109) rfl rfl)
theorem zmL_137 : zMl RL 137 yL_spent := Or.inl (zm4 (i := 75) rfl rfl)
theorem zmL_139 : zMl RL 139 yX11_spent := Or.inl (zm6 (i := 121) rfl rfl)
theorem zmL_140 : zMl RL 140 yL_best := Or.inl (zm4 (i := 87) rfl rfl)
theorem zmL_142 : zMl RL 142 yX11_best := Or.inl (zm6 (i := 125) rfl rfl)
theorem zmL_143 : zMl RL 143 yL_plan := Or.inl (zm4 (i := 99) rfl rfl)
theorem zmL_145 : zMl RL 145 yX11_plan := Or.inl (zm6 (i := 148) rfl rfl)
theorem zmL_146 : zMl RL 146 yL_fewest := Or.inl (zm4 (i := 121) rfl rfl)
theorem zmL_148 : zMl RL 148 yX11_fewest := Or.inl (zm6 (i := 160) rfl rfl)
theorem zmL_149 : zMl RL 149 yX10_doublings := Or.inl (zm2 (i := 138) rfl rfl)
theorem zmL_152 : zMl RL 152 yX11_doublings := Or.inl (zm6 (i := 188) rfl rfl)
theorem zmL_153 : zMl RL 153 yL_soonest := Or.inl (zm4 (i := 191) rfl rfl)
theorem zmL_155 : zMl RL 155 yX11_soonest := Or.inl (zm6 (i := 192) rfl rfl)
theorem zmL_156 : zMl RL 156 yL_cheapest := Or.inl (zm4 (i := 199) rfl rfl)
theorem zmL_158 : zMl RL 158 yX11_cheapest := Or.inl (zm6 (i := 200) rfl rfl)
theorem zmL_159 : zMl RL 159 yX10_vital := Or.inl (zm2 (i := 158) rfl rfl)
theorem zmL_162 : zMl RL 162 yX11_vital := Or.inl (zm6 (i := 213) rfl rfl)
theorem zmL_163 : zMl RL 163 yL_arrange := Or.inl (zm4 (i := 219) rfl rfl)
theorem zmL_165 : zMl RL 165 yX11_arrange := Or.inl (zm6 (i := 221) rfl rfl)
theorem zmL_166 : zMl RL 166 yL_takeBack := Or.inl (zm4 (i := 236) rfl rfl)
theorem zmL_168 : zMl RL 168 yX11_takeBack := Or.inl (zm6 (i := 236) rfl rfl)
theorem zmL_169 : zMl RL 169 yX10_arrangeBest := Or.inl (zm2 (i := 183) rfl rfl)
theorem zmL_172 : zMl RL 172 yX11_arrangeBest := Or.inl (zm7 (i := 0) rfl rfl)
theorem zmL_173 : zMl RL 173 yL_ring := Or.inl (zm5 (i := 4) rfl rfl)
theorem zmL_176 : zMl RL 176 yX11_ring := Or.inl (zm7 (i := 4) rfl rfl)
theorem zmL_177 : zMl RL 177 yL_cut := Or.inl (zm5 (i := 38) rfl rfl)
theorem zmL_179 : zMl RL 179 yX11_cut := Or.inl (zm7 (i := 8) rfl rfl)
theorem zmL_180 : zMl RL 180 yL_mend := Or.inl (zm5 (i := 46) rfl rfl)
theorem zmL_182 : zMl RL 182 yX11_mend := Or.inl (zm7 (i := 12) rfl rfl)
theorem zmL_183 : zMl RL 183 yL_tell := Or.inl (zm5 (i := 54) rfl rfl)
theorem zmL_185 : zMl RL 185 yX11_tell := Or.inl (zm7 (i := 16) rfl rfl)
theorem zmL_186 : zMl RL 186 yX10_undo := Or.inl (zm3 (i := 10) rfl rfl)
theorem zmL_189 : zMl RL 189 yX11_undo := Or.inl (zm7 (i := 20) rfl rfl)
theorem zmL_190 : zMl RL 190 yL_saveSnapshot := Or.inl (zm5 (i := 62) rfl rfl)
theorem zmL_192 : zMl RL 192 yX11_saveSnapshot := Or.inl (zm7 (i := 24) rfl rfl)
theorem zmL_193 : zMl RL 193 yL_restoreSnapshot := Or.inl (zm5 (i := 75) rfl rfl)
theorem zmL_195 : zMl RL 195 yX11_restoreSnapshot := Or.inl (zm7 (i := 32) rfl rfl)
theorem zmX11_71 : zMl RX11 71 yX11_clearDraft := Or.inl (zm5 (i := 89) rfl rfl)
theorem zmX11_74 : zMl RX11 74 yX11_liftsAll := Or.inl (zm5 (i := 93) rfl rfl)
theorem zmX11_77 : zMl RX11 77 yX11_begins := Or.inl (zm5 (i := 100) rfl rfl)
theorem zmX11_83 : zMl RX11 83 yX11_lifts := Or.inl (zm5 (i := 97) rfl rfl)
theorem zmX11_90 : zMl RX11 90 yX11_bytesOf := Or.inl (zm5 (i := 202) rfl rfl)
theorem zmX11_100 : zMl RX11 100 yX11_byteAt := Or.inl (zm5 (i := 221) rfl rfl)
theorem zmX11_113 : zMl RX11 113 yX11_within := Or.inl (zm5 (i := 210) rfl rfl)
theorem zmX11_117 : zMl RX11 117 yJ0_length_8abf5 := Or.inl (zm5 (i := 234) rfl rfl)
theorem zmX11_122 : zMl RX11 122 yJ0_charAt_5068e := Or.inl (zm5 (i := 235) rfl rfl)
theorem zmX11_129 : zMl RX11 129 yX11_fails := Or.inl (zm6 (i := 0) rfl rfl)
theorem zmX11_136 : zMl RX11 136 yX11_advance := Or.inl (zm5 (i := 217) rfl rfl)
theorem zmX11_139 : zMl RX11 139 yX11_takes := Or.inl (zm6 (i := 4) rfl rfl)
theorem zmX11_143 : zMl RX11 143 yX11_starts := Or.inl (zm5 (i := 236) rfl rfl)
theorem zmX11_147 : zMl RX11 147 yX11_puts := Or.inl (zm6 (i := 13) rfl rfl)
theorem zmX11_152 : zMl RX11 152 yX11_isWord := Or.inl (zm5 (i := 230) rfl rfl)
theorem zmX11_166 : zMl RX11 166 yX11_lineLine := Or.inl (zm6 (i := 9) rfl rfl)
theorem zmX11_171 : zMl RX11 171 yX11_span := Or.inl (zm6 (i := 20) rfl rfl)
theorem zmX11_176 : zMl RX11 176 yX11_throwsIf := Or.inl (zm5 (i := 213) rfl rfl)
theorem zmX11_180 : zMl RX11 180 yX11_statement := Or.inl (zm5 (i := 225) rfl rfl)
theorem zmX11_183 : zMl RX11 183 yX11_closes := Or.inl (zm6 (i := 25) rfl rfl)
theorem zmX11_189 : zMl RX11 189 yX11_no := Or.inl (zm6 (i := 48) rfl rfl)
theorem zmX11_192 : zMl RX11 192 yX11_many := Or.inl (zm6 (i := 37) rfl rfl)
theorem zmX11_195 : zMl RX11 195 yX11_noLine := Or.inl (zm6 (i := 44) rfl rfl)
theorem zmX11_198 : zMl RX11 198 yX11_brokenOf := Or.inl (zm6 (i := 52) rfl rfl)
theorem zmX11_201 : zMl RX11 201 yX11_isIn := Or.inl (zm6 (i := 64) rfl rfl)
theorem zmX11_204 : zMl RX11 204 yX11_includes := Or.inl (zm6 (i := 67) rfl rfl)
theorem zmX11_207 : zMl RX11 207 yX11_canCall := Or.inl (zm6 (i := 60) rfl rfl)
theorem zmX11_210 : zMl RX11 210 yX11_noPerson := Or.inl (zm6 (i := 78) rfl rfl)
theorem zmX11_213 : zMl RX11 213 yX11_knowersIn := Or.inl (zm6 (i := 90) rfl rfl)
theorem zmX11_217 : zMl RX11 217 yX11_knowersOf := Or.inl (zm6 (i := 86) rfl rfl)
theorem zmX11_220 : zMl RX11 220 yX11_missingIn := Or.inl (zm6 (i := 97) rfl rfl)
theorem zmX11_224 : zMl RX11 224 yX11_gainOf := Or.inl (zm6 (i := 117) rfl rfl)
theorem zmX11_228 : zMl RX11 228 yX11_gainNow := Or.inl (zm6 (i := 113) rfl rfl)
theorem zmX11_231 : zMl RX11 231 yX11_all := Or.inl (zm6 (i := 137) rfl rfl)
theorem zmX11_234 : zMl RX11 234 yX11_lowest := Or.inl (zm6 (i := 141) rfl rfl)
theorem zmX11_237 : zMl RX11 237 yX11_bestFor := Or.inl (zm6 (i := 133) rfl rfl)
theorem zmX11_240 : zMl RX11 240 yX11_bestNow := Or.inl (zm6 (i := 129) rfl rfl)
theorem zmX11_243 : zMl RX11 243 yX11_costOf := Or.inl (zm6 (i := 144) rfl rfl)
theorem zmX11_246 : zMl RX11 246 yX11_thinks := Or.inl (zm6 (i := 152) rfl rfl)
theorem zmX11_249 : zMl RX11 249 yX11_calls := Or.inl (zm6 (i := 156) rfl rfl)
theorem zmX11_255 : zMl RX11 255 yX11_isEnough := Or.inl (zm6 (i := 168) rfl rfl)
theorem zmX11_258 : zMl RX11 258 yX11_canBe := Or.inl (zm6 (i := 172) rfl rfl)
theorem zmX11_261 : zMl RX11 261 yX11_pairs := Or.inl (zm6 (i := 176) rfl rfl)
theorem zmX11_264 : zMl RX11 264 yX11_isIdle := Or.inl (zm6 (i := 180) rfl rfl)
theorem zmX11_267 : zMl RX11 267 yX11_comes := Or.inl (zm6 (i := 164) rfl rfl)
theorem zmX11_270 : zMl RX11 270 yX11_waysOf := Or.inl (zm6 (i := 184) rfl rfl)
theorem zmX11_274 : zMl RX11 274 yX11_usableIn := Or.inl (zm6 (i := 196) rfl rfl)
theorem zmX11_278 : zMl RX11 278 yX11_cheaper := Or.inl (zm6 (i := 209) rfl rfl)
theorem zmX11_281 : zMl RX11 281 yX11_prices := Or.inl (zm6 (i := 204) rfl rfl)
theorem zmX11_285 : zMl RX11 285 yX11_comeAbout := Or.inl (zm6 (i := 217) rfl rfl)
theorem zmX11_288 : zMl RX11 288 yX11_canArrange := Or.inl (zm6 (i := 225) rfl rfl)
theorem zmX11_291 : zMl RX11 291 yX11_keeps := Or.inl (zm6 (i := 229) rfl rfl)
theorem zmX11_294 : zMl RX11 294 yX11_copies := Or.inl (zm6 (i := 233) rfl rfl)
theorem zmX11_298 : zMl RX11 298 yX11_noSlot := Or.inl (zm7 (i := 28) rfl rfl)
theorem zmJ0_335 : zMl RJ0 335 yJ0_coder_7d493 := Or.inl (zm3 (i := 131) rfl rfl)
theorem zmJ0_492 : zMl RJ0 492 yJ0_isLatin1_aae02 := Or.inl (zm3 (i := 141) rfl rfl)
theorem zmJ0_495 : zMl RJ0 495 yJ1_charAt_3b067 := Or.inl (zm3 (i := 145) rfl rfl)
theorem zmJ0_498 : zMl RJ0 498 yJ2_charAt_3b067 := Or.inl (zm3 (i := 156) rfl rfl)
theorem zmJ0_1059 : zMl RJ0 1059 yJ3_checkIndex_8e157 := Or.inl (zm3 (i := 153) rfl rfl)
theorem zmJ1_9 : zMl RJ1 9 yJ0_checkIndex_df160 := Or.inl (zm3 (i := 148) rfl rfl)
theorem zmJ2_48 : zMl RJ2 48 yJ2_length_9d52b := Or.inl (zm3 (i := 162) rfl rfl)
theorem zmJ2_67 : zMl RJ2 67 yJ2_checkIndex_2214a := Or.inl (zm3 (i := 159) rfl rfl)
theorem zmJ2_71 : zMl RJ2 71 yJ2_getChar_3b067 := Or.inl (zm3 (i := 166) rfl rfl)
theorem zmJ2_414 : zMl RJ2 414 yJ0_checkIndex_df160 := Or.inl (zm3 (i := 165) rfl rfl)
theorem zmX10_9 : zMl RX10 9 yX9_init := Or.inr ⟨"NewsExchange", zh1 (i := 35) rfl rfl⟩
theorem zmX10_18 : zMl RX10 18 yX1_init := Or.inr ⟨"NewsExchange", zh1 (i := 147) rfl rfl⟩
theorem zmX10_25 : zMl RX10 25 yX7_init := Or.inr ⟨"NewsExchange", zh1 (i := 150) rfl rfl⟩
theorem zmX10_47 : zMl RX10 47 yX0_init := Or.inr ⟨"NewsExchange", zh1 (i := 221) rfl rfl⟩
theorem zmX10_54 : zMl RX10 54 yX4_init := Or.inr ⟨"NewsExchange", zh1 (i := 235) rfl rfl⟩
theorem zmX0_37 : zMl RX0 37 yX10_isIn := Or.inr ⟨"NewsExchange", zh2 (i := 227) rfl rfl⟩
theorem zmX1_34 : zMl RX1 34 yX8_init := Or.inr ⟨"NewsExchange", zh1 (i := 47) rfl rfl⟩
theorem zmX1_57 : zMl RX1 57 yX10_isIn := Or.inr ⟨"NewsExchange", zh2 (i := 130) rfl rfl⟩
theorem zmX2_24 : zMl RX2 24 yX7_init := Or.inr ⟨"NewsExchange", zh1 (i := 208) rfl rfl⟩
theorem zmX3_19 : zMl RX3 19 yX10_isIn := Or.inr ⟨"NewsExchange", zh2 (i := 150) rfl rfl⟩
theorem zmX4_11 : zMl RX4 11 yX3_init := Or.inr ⟨"NewsExchange", zh2 (i := 0) rfl rfl⟩
theorem zmX6_32 : zMl RX6 32 yX3_init := Or.inr ⟨"NewsExchange", zh2 (i := 28) rfl rfl⟩
theorem zmX6_80 : zMl RX6 80 yX10_isIn := Or.inr ⟨"NewsExchange", zh4 (i := 157) rfl rfl⟩
theorem zmX7_11 : zMl RX7 11 yX3_init := Or.inr ⟨"NewsExchange", zh1 (i := 156) rfl rfl⟩
theorem zmX9_21 : zMl RX9 21 yX1_init := Or.inr ⟨"NewsExchange", zh1 (i := 41) rfl rfl⟩
theorem zitL : Cond.initialized RL ∈ zG := zm1 (i := 0) rfl rfl
theorem zitX10 : Cond.initialized RX10 ∈ zG := zm1 (i := 1) rfl rfl
theorem zitX9 : Cond.initialized RX9 ∈ zG := zm1 (i := 2) rfl rfl
theorem zitX1 : Cond.initialized RX1 ∈ zG := zm1 (i := 3) rfl rfl
theorem zitX8 : Cond.initialized RX8 ∈ zG := zm1 (i := 4) rfl rfl
theorem zitX7 : Cond.initialized RX7 ∈ zG := zm1 (i := 5) rfl rfl
theorem zitX3 : Cond.initialized RX3 ∈ zG := zm1 (i := 6) rfl rfl
theorem zitX2 : Cond.initialized RX2 ∈ zG := zm1 (i := 7) rfl rfl
theorem zitX0 : Cond.initialized RX0 ∈ zG := zm1 (i := 8) rfl rfl
theorem zitX4 : Cond.initialized RX4 ∈ zG := zm1 (i := 9) rfl rfl
theorem zitX6 : Cond.initialized RX6 ∈ zG := zm1 (i := 10) rfl rfl
theorem zitX11 : Cond.initialized RX11 ∈ zG := zm1 (i := 11) rfl rfl
theorem zitJ9 : Cond.initialized RJ9 ∈ zG := zm1 (i := 16) rfl rfl
theorem zitJ0 : Cond.initialized RJ0 ∈ zG := zm1 (i := 17) rfl rfl
theorem zitJ1 : Cond.initialized RJ1 ∈ zG := zm1 (i := 18) rfl rfl
theorem zitJ3 : Cond.initialized RJ3 ∈ zG := zm1 (i := 19) rfl rfl
theorem zitJ2 : Cond.initialized RJ2 ∈ zG := zm1 (i := 20) rfl rfl
theorem zitJ6 : Cond.initialized RJ6 ∈ zG := zm1 (i := 21) rfl rfl
theorem zitX5 : Cond.initialized RX5 ∈ zG := zm1 (i := 24) rfl rfl
theorem zclL_8 : Cond.classLink RL 8 RX10 ∈ zG := zm1 (i := 25) rfl rfl
theorem zibX10 : Cond.instantiable RX10 10 ∈ zG := zm1 (i := 26) rfl rfl
theorem zclX10_7 : Cond.classLink RX10 7 RX9 ∈ zG := zm1 (i := 33) rfl rfl
theorem zibX9 : Cond.instantiable RX9 10 ∈ zG := zm1 (i := 34) rfl rfl
theorem zclX9_19 : Cond.classLink RX9 19 RX1 ∈ zG := zm1 (i := 39) rfl rfl
theorem zibX1 : Cond.instantiable RX1 8 ∈ zG := zm1 (i := 40) rfl rfl
theorem zclX1_32 : Cond.classLink RX1 32 RX8 ∈ zG := zm1 (i := 45) rfl rfl
theorem zibX8 : Cond.instantiable RX8 4 ∈ zG := zm1 (i := 46) rfl rfl
theorem zclX10_16 : Cond.classLink RX10 16 RX1 ∈ zG := zm1 (i := 146) rfl rfl
theorem zclX10_23 : Cond.classLink RX10 23 RX7 ∈ zG := zm1 (i := 148) rfl rfl
theorem zibX7 : Cond.instantiable RX7 6 ∈ zG := zm1 (i := 149) rfl rfl
theorem zclX7_9 : Cond.classLink RX7 9 RX3 ∈ zG := zm1 (i := 154) rfl rfl
theorem zibX3 : Cond.instantiable RX3 2 ∈ zG := zm1 (i := 155) rfl rfl
theorem zclX10_30 : Cond.classLink RX10 30 RX2 ∈ zG := zm1 (i := 200) rfl rfl
theorem zibX2 : Cond.instantiable RX2 3 ∈ zG := zm1 (i := 201) rfl rfl
theorem zclX2_9 : Cond.classLink RX2 9 RX7 ∈ zG := zm1 (i := 206) rfl rfl
theorem zclX10_45 : Cond.classLink RX10 45 RX0 ∈ zG := zm1 (i := 219) rfl rfl
theorem zibX0 : Cond.instantiable RX0 2 ∈ zG := zm1 (i := 220) rfl rfl
theorem zclX10_52 : Cond.classLink RX10 52 RX4 ∈ zG := zm1 (i := 233) rfl rfl
theorem zibX4 : Cond.instantiable RX4 4 ∈ zG := zm1 (i := 234) rfl rfl
theorem zclX4_9 : Cond.classLink RX4 9 RX3 ∈ zG := zm1 (i := 239) rfl rfl
theorem zclX10_59 : Cond.classLink RX10 59 RX6 ∈ zG := zm2 (i := 18) rfl rfl
theorem zibX6 : Cond.instantiable RX6 5 ∈ zG := zm2 (i := 19) rfl rfl
theorem zclX6_9 : Cond.classLink RX6 9 RX3 ∈ zG := zm2 (i := 24) rfl rfl
theorem zclX6_17 : Cond.classLink RX6 17 "[[I" ∈ zG := zm2 (i := 26) rfl rfl
theorem zcoJ6_265 : Cond.constant RJ6 265 (1431655765 : Int32) ∈ zG := zm2 (i := 115) rfl rfl
theorem zcoJ6_266 : Cond.constant RJ6 266 (858993459 : Int32) ∈ zG := zm2 (i := 116) rfl rfl
theorem zcoJ6_267 : Cond.constant RJ6 267 (252645135 : Int32) ∈ zG := zm2 (i := 117) rfl rfl
theorem zcoX0_32 : Cond.constantLong RX0 32 (16777215 : Int64) ∈ zG := zm3 (i := 8) rfl rfl
theorem zclL_13 : Cond.classLink RL 13 "java/lang/IllegalArgumentException" ∈ zG := zm3 (i := 21) rfl rfl
theorem zclX10_84 : Cond.classLink RX10 84 "java/lang/IllegalArgumentException" ∈ zG := zm3 (i := 26) rfl rfl
theorem zclL_22 : Cond.classLink RL 22 "java/lang/IndexOutOfBoundsException" ∈ zG := zm4 (i := 6) rfl rfl
theorem zclX10_296 : Cond.classLink RX10 296 "java/lang/IndexOutOfBoundsException" ∈ zG := zm4 (i := 15) rfl rfl
theorem zclL_49 : Cond.classLink RL 49 "java/lang/IllegalStateException" ∈ zG := zm4 (i := 124) rfl rfl
theorem zclX10_225 : Cond.classLink RX10 225 "java/lang/IllegalStateException" ∈ zG := zm4 (i := 130) rfl rfl
theorem zcoX1_82 : Cond.constant RX1 82 (1000000 : Int32) ∈ zG := zm4 (i := 210) rfl rfl
theorem zclX7_49 : Cond.classLink RX7 49 RX5 ∈ zG := zm5 (i := 18) rfl rfl
theorem zibX5 : Cond.instantiable RX5 3 ∈ zG := zm5 (i := 19) rfl rfl
theorem zclL_84 : Cond.classLink RL 84 RX11 ∈ zG := zm5 (i := 83) rfl rfl
theorem zibX11 : Cond.instantiable RX11 31 ∈ zG := zm5 (i := 84) rfl rfl
theorem zcoX11_277 : Cond.constant RX11 277 (1000000 : Int32) ∈ zG := zm6 (i := 208) rfl rfl
