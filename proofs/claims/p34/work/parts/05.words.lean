theorem zt_r {w : Cond} (h : w ∈ tables_1) (g : goodWord w = true) : w ∈ zG := zG_of (List.mem_append_right _ (List.mem_append_right _ h)) g
theorem zm1 {i : Nat} {w : Cond} (h : tables_1_1[i]? = some w) (g : goodWord w = true) : w ∈ zG := zt_r (List.mem_append_left _ (List.mem_of_getElem? h)) g
theorem zm2 {i : Nat} {w : Cond} (h : tables_1_2[i]? = some w) (g : goodWord w = true) : w ∈ zG := zt_r (List.mem_append_right _ (List.mem_append_left _ (List.mem_of_getElem? h))) g
theorem zm3 {i : Nat} {w : Cond} (h : tables_1_3[i]? = some w) (g : goodWord w = true) : w ∈ zG := zt_r (List.mem_append_right _ (List.mem_append_right _ (List.mem_append_left _ (List.mem_of_getElem? h)))) g
theorem zm4 {i : Nat} {w : Cond} (h : tables_1_4[i]? = some w) (g : goodWord w = true) : w ∈ zG := zt_r (List.mem_append_right _ (List.mem_append_right _ (List.mem_append_right _ (List.mem_append_left _ (List.mem_of_getElem? h))))) g
theorem zm5 {i : Nat} {w : Cond} (h : tables_1_5[i]? = some w) (g : goodWord w = true) : w ∈ zG := zt_r (List.mem_append_right _ (List.mem_append_right _ (List.mem_append_right _ (List.mem_append_right _ (List.mem_append_left _ (List.mem_of_getElem? h)))))) g
theorem zm6 {i : Nat} {w : Cond} (h : tables_1_6[i]? = some w) (g : goodWord w = true) : w ∈ zG := zt_r (List.mem_append_right _ (List.mem_append_right _ (List.mem_append_right _ (List.mem_append_right _ (List.mem_append_right _ (List.mem_of_getElem? h)))))) g
theorem zh1 {i : Nat} {w : Cond} (h : tables_1_1[i]? = some w) (g : zNb w = true) : w ∈ zH := List.mem_filter.mpr ⟨List.mem_append_left _ (List.mem_of_getElem? h), g⟩
theorem zh2 {i : Nat} {w : Cond} (h : tables_1_2[i]? = some w) (g : zNb w = true) : w ∈ zH := List.mem_filter.mpr ⟨List.mem_append_right _ (List.mem_append_left _ (List.mem_of_getElem? h)), g⟩
theorem zh3 {i : Nat} {w : Cond} (h : tables_1_3[i]? = some w) (g : zNb w = true) : w ∈ zH := List.mem_filter.mpr ⟨List.mem_append_right _ (List.mem_append_right _ (List.mem_append_left _ (List.mem_of_getElem? h))), g⟩
theorem zh4 {i : Nat} {w : Cond} (h : tables_1_4[i]? = some w) (g : zNb w = true) : w ∈ zH := List.mem_filter.mpr ⟨List.mem_append_right _ (List.mem_append_right _ (List.mem_append_right _ (List.mem_append_left _ (List.mem_of_getElem? h)))), g⟩
theorem zh5 {i : Nat} {w : Cond} (h : tables_1_5[i]? = some w) (g : zNb w = true) : w ∈ zH := List.mem_filter.mpr ⟨List.mem_append_right _ (List.mem_append_right _ (List.mem_append_right _ (List.mem_append_right _ (List.mem_append_left _ (List.mem_of_getElem? h))))), g⟩
theorem zh6 {i : Nat} {w : Cond} (h : tables_1_6[i]? = some w) (g : zNb w = true) : w ∈ zH := List.mem_filter.mpr ⟨List.mem_append_right _ (List.mem_append_right _ (List.mem_append_right _ (List.mem_append_right _ (List.mem_append_right _ (List.mem_of_getElem? h))))), g⟩
theorem zmS {i : Nat} {w : Cond} (h : lw_tblS[i]? = some w) (g : goodWord w = true) : w ∈ zG := zG_of (List.mem_append_right _ (List.mem_append_left _ (List.mem_of_getElem? h))) g
theorem zms {w : Cond} (h : w ∈ k2_sels lw_privs) (g : goodWord w = true) : w ∈ zG := zG_of (List.mem_append_left _ h) g
theorem zinX0 : ∀ w ∈ u_ws RX0 TX0 2, w ∈ zG := List.forall_mem_cons.mpr ⟨zm1 (i := 223) rfl rfl, List.forall_mem_cons.mpr ⟨zm1 (i := 225) rfl rfl, fun _ h => absurd h List.not_mem_nil⟩⟩
theorem zkX0 : zK 0 RX0 TX0 2 tyX0 := ⟨rfl, zinX0, tyX0_ok, nmX0⟩
theorem zinX1 : ∀ w ∈ u_ws RX1 TX1 8, w ∈ zG := List.forall_mem_cons.mpr ⟨zm1 (i := 97) rfl rfl, List.forall_mem_cons.mpr ⟨zm1 (i := 99) rfl rfl, List.forall_mem_cons.mpr ⟨zm1 (i := 101) rfl rfl, List.forall_mem_cons.mpr ⟨zm1 (i := 103) rfl rfl, List.forall_mem_cons.mpr ⟨zm1 (i := 105) rfl rfl, List.forall_mem_cons.mpr ⟨zm1 (i := 107) rfl rfl, List.forall_mem_cons.mpr ⟨zm1 (i := 109) rfl rfl, List.forall_mem_cons.mpr ⟨zm1 (i := 111) rfl rfl, fun _ h => absurd h List.not_mem_nil⟩⟩⟩⟩⟩⟩⟩⟩
theorem zkX1 : zK 1 RX1 TX1 8 tyX1 := ⟨rfl, zinX1, tyX1_ok, nmX1⟩
theorem zinX2 : ∀ w ∈ u_ws RX2 TX2 3, w ∈ zG := List.forall_mem_cons.mpr ⟨zm1 (i := 208) rfl rfl, List.forall_mem_cons.mpr ⟨zm1 (i := 210) rfl rfl, List.forall_mem_cons.mpr ⟨zm1 (i := 212) rfl rfl, fun _ h => absurd h List.not_mem_nil⟩⟩⟩
theorem zkX2 : zK 2 RX2 TX2 3 tyX2 := ⟨rfl, zinX2, tyX2_ok, nmX2⟩
theorem zinX3 : ∀ w ∈ u_ws RX3 TX3 2, w ∈ zG := List.forall_mem_cons.mpr ⟨zm1 (i := 164) rfl rfl, List.forall_mem_cons.mpr ⟨zm1 (i := 166) rfl rfl, fun _ h => absurd h List.not_mem_nil⟩⟩
theorem zkX3 : zK 3 RX3 TX3 2 tyX3 := ⟨rfl, zinX3, tyX3_ok, nmX3⟩
theorem zinX4 : ∀ w ∈ u_ws RX4 TX4 4, w ∈ zG := List.forall_mem_cons.mpr ⟨zm2 (i := 5) rfl rfl, List.forall_mem_cons.mpr ⟨zm2 (i := 7) rfl rfl, List.forall_mem_cons.mpr ⟨zm2 (i := 9) rfl rfl, List.forall_mem_cons.mpr ⟨zm2 (i := 11) rfl rfl, fun _ h => absurd h List.not_mem_nil⟩⟩⟩⟩
theorem zkX4 : zK 4 RX4 TX4 4 tyX4 := ⟨rfl, zinX4, tyX4_ok, nmX4⟩
theorem zinX5 : ∀ w ∈ u_ws RX5 TX5 3, w ∈ zG := List.forall_mem_cons.mpr ⟨zm5 (i := 180) rfl rfl, List.forall_mem_cons.mpr ⟨zm5 (i := 182) rfl rfl, List.forall_mem_cons.mpr ⟨zm5 (i := 184) rfl rfl, fun _ h => absurd h List.not_mem_nil⟩⟩⟩
theorem zkX5 : zK 5 RX5 TX5 3 tyX5 := ⟨rfl, zinX5, tyX5_ok, nmX5⟩
theorem zinX6 : ∀ w ∈ u_ws RX6 TX6 5, w ∈ zG := List.forall_mem_cons.mpr ⟨zm2 (i := 30) rfl rfl, List.forall_mem_cons.mpr ⟨zm2 (i := 32) rfl rfl, List.forall_mem_cons.mpr ⟨zm2 (i := 34) rfl rfl, List.forall_mem_cons.mpr ⟨zm2 (i := 36) rfl rfl, List.forall_mem_cons.mpr ⟨zm2 (i := 38) rfl rfl, fun _ h => absurd h List.not_mem_nil⟩⟩⟩⟩⟩
theorem zkX6 : zK 6 RX6 TX6 5 tyX6 := ⟨rfl, zinX6, tyX6_ok, nmX6⟩
theorem zinX7 : ∀ w ∈ u_ws RX7 TX7 6, w ∈ zG := List.forall_mem_cons.mpr ⟨zm1 (i := 183) rfl rfl, List.forall_mem_cons.mpr ⟨zm1 (i := 185) rfl rfl, List.forall_mem_cons.mpr ⟨zm1 (i := 187) rfl rfl, List.forall_mem_cons.mpr ⟨zm1 (i := 189) rfl rfl, List.forall_mem_cons.mpr ⟨zm1 (i := 191) rfl rfl, List.forall_mem_cons.mpr ⟨zm1 (i := 193) rfl rfl, fun _ h => absurd h List.not_mem_nil⟩⟩⟩⟩⟩⟩
theorem zkX7 : zK 7 RX7 TX7 6 tyX7 := ⟨rfl, zinX7, tyX7_ok, nmX7⟩
theorem zinX8 : ∀ w ∈ u_ws RX8 TX8 4, w ∈ zG := List.forall_mem_cons.mpr ⟨zm1 (i := 61) rfl rfl, List.forall_mem_cons.mpr ⟨zm1 (i := 63) rfl rfl, List.forall_mem_cons.mpr ⟨zm1 (i := 65) rfl rfl, List.forall_mem_cons.mpr ⟨zm1 (i := 67) rfl rfl, fun _ h => absurd h List.not_mem_nil⟩⟩⟩⟩
theorem zkX8 : zK 8 RX8 TX8 4 tyX8 := ⟨rfl, zinX8, tyX8_ok, nmX8⟩
theorem zinX9 : ∀ w ∈ u_ws RX9 TX9 10, w ∈ zG := List.forall_mem_cons.mpr ⟨zm1 (i := 125) rfl rfl, List.forall_mem_cons.mpr ⟨zm1 (i := 127) rfl rfl, List.forall_mem_cons.mpr ⟨zm1 (i := 129) rfl rfl, List.forall_mem_cons.mpr ⟨zm1 (i := 131) rfl rfl, List.forall_mem_cons.mpr ⟨zm1 (i := 133) rfl rfl, List.forall_mem_cons.mpr ⟨zm1 (i := 135) rfl rfl, List.forall_mem_cons.mpr ⟨zm1 (i := 137) rfl rfl, List.forall_mem_cons.mpr ⟨zm1 (i := 139) rfl rfl, List.forall_mem_cons.mpr ⟨zm1 (i := 141) rfl rfl, List.forall_mem_cons.mpr ⟨zm1 (i := 143) rfl rfl, fun _ h => absurd h List.not_mem_nil⟩⟩⟩⟩⟩⟩⟩⟩⟩⟩
theorem zkX9 : zK 9 RX9 TX9 10 tyX9 := ⟨rfl, zinX9, tyX9_ok, nmX9⟩
theorem zinX10 : ∀ w ∈ u_ws RX10 TX10 10, w ∈ zG := List.forall_mem_cons.mpr ⟨zm2 (i := 59) rfl rfl, List.forall_mem_cons.mpr ⟨zm2 (i := 61) rfl rfl, List.forall_mem_cons.mpr ⟨zm2 (i := 63) rfl rfl, List.forall_mem_cons.mpr ⟨zm2 (i := 65) rfl rfl, List.forall_mem_cons.mpr ⟨zm2 (i := 67) rfl rfl, List.forall_mem_cons.mpr ⟨zm2 (i := 69) rfl rfl, List.forall_mem_cons.mpr ⟨zm2 (i := 71) rfl rfl, List.forall_mem_cons.mpr ⟨zm2 (i := 73) rfl rfl, List.forall_mem_cons.mpr ⟨zm2 (i := 75) rfl rfl, List.forall_mem_cons.mpr ⟨zm2 (i := 77) rfl rfl, fun _ h => absurd h List.not_mem_nil⟩⟩⟩⟩⟩⟩⟩⟩⟩⟩
theorem zkX10 : zK 10 RX10 TX10 10 tyX10 := ⟨rfl, zinX10, tyX10_ok, nmX10⟩
theorem zinX11 : ∀ w ∈ u_ws RX11 TX11 6, w ∈ zG := List.forall_mem_cons.mpr ⟨zm3 (i := 123) rfl rfl, List.forall_mem_cons.mpr ⟨zm3 (i := 125) rfl rfl, List.forall_mem_cons.mpr ⟨zm3 (i := 127) rfl rfl, List.forall_mem_cons.mpr ⟨zm3 (i := 129) rfl rfl, List.forall_mem_cons.mpr ⟨zm3 (i := 131) rfl rfl, List.forall_mem_cons.mpr ⟨zm3 (i := 133) rfl rfl, fun _ h => absurd h List.not_mem_nil⟩⟩⟩⟩⟩⟩
theorem zkX11 : zK 11 RX11 TX11 6 tyX11 := ⟨rfl, zinX11, tyX11_ok, nmX11⟩
theorem zinX12 : ∀ w ∈ u_ws RX12 TX12 12, w ∈ zG := List.forall_mem_cons.mpr ⟨zm2 (i := 147) rfl rfl, List.forall_mem_cons.mpr ⟨zm2 (i := 149) rfl rfl, List.forall_mem_cons.mpr ⟨zm2 (i := 151) rfl rfl, List.forall_mem_cons.mpr ⟨zm2 (i := 153) rfl rfl, List.forall_mem_cons.mpr ⟨zm2 (i := 155) rfl rfl, List.forall_mem_cons.mpr ⟨zm2 (i := 157) rfl rfl, List.forall_mem_cons.mpr ⟨zm2 (i := 159) rfl rfl, List.forall_mem_cons.mpr ⟨zm2 (i := 161) rfl rfl, List.forall_mem_cons.mpr ⟨zm2 (i := 163) rfl rfl, List.forall_mem_cons.mpr ⟨zm2 (i := 165) rfl rfl, List.forall_mem_cons.mpr ⟨zm2 (i := 167) rfl rfl, List.forall_mem_cons.mpr ⟨zm2 (i := 169) rfl rfl, fun _ h => absurd h List.not_mem_nil⟩⟩⟩⟩⟩⟩⟩⟩⟩⟩⟩⟩
theorem zkX12 : zK 12 RX12 TX12 12 tyX12 := ⟨rfl, zinX12, tyX12_ok, nmX12⟩
theorem zlX10_10 : zL RX10 10 TX10 0 := Or.inl (zm2 (i := 49) rfl rfl)
theorem zlX10_19 : zL RX10 19 TX10 1 := Or.inl (zm2 (i := 50) rfl rfl)
theorem zlX10_26 : zL RX10 26 TX10 2 := Or.inl (zm2 (i := 51) rfl rfl)
theorem zlX10_33 : zL RX10 33 TX10 3 := Or.inl (zm2 (i := 52) rfl rfl)
theorem zlX10_37 : zL RX10 37 TX10 4 := Or.inl (zm2 (i := 53) rfl rfl)
theorem zlX10_41 : zL RX10 41 TX10 5 := Or.inl (zm2 (i := 54) rfl rfl)
theorem zlX10_48 : zL RX10 48 TX10 6 := Or.inl (zm2 (i := 55) rfl rfl)
theorem zlX10_55 : zL RX10 55 TX10 7 := Or.inl (zm2 (i := 56) rfl rfl)
theorem zlX10_62 : zL RX10 62 TX10 8 := Or.inl (zm2 (i := 57) rfl rfl)
theorem zlX10_66 : zL RX10 66 TX10 9 := Or.inl (zm2 (i := 58) rfl rfl)
theorem zlX0_9 : zL RX0 9 TX0 0 := Or.inl (zm1 (i := 221) rfl rfl)
theorem zlX0_15 : zL RX0 15 TX0 1 := Or.inl (zm1 (i := 222) rfl rfl)
theorem zlX1_9 : zL RX1 9 TX1 0 := Or.inl (zm1 (i := 73) rfl rfl)
theorem zlX1_15 : zL RX1 15 TX1 1 := Or.inl (zm1 (i := 77) rfl rfl)
theorem zlX1_18 : zL RX1 18 TX1 2 := Or.inl (zm1 (i := 81) rfl rfl)
theorem zlX1_22 : zL RX1 22 TX1 3 := Or.inl (zm1 (i := 84) rfl rfl)
theorem zlX1_25 : zL RX1 25 TX1 4 := Or.inl (zm1 (i := 87) rfl rfl)
theorem zlX1_28 : zL RX1 28 TX1 5 := Or.inl (zm1 (i := 90) rfl rfl)
theorem zlX1_35 : zL RX1 35 TX1 6 := Or.inl (zm1 (i := 92) rfl rfl)
theorem zlX1_39 : zL RX1 39 TX1 7 := Or.inl (zm1 (i := 95) rfl rfl)
theorem zlX2_11 : zL RX2 11 TX2 0 := Or.inl (zm1 (i := 205) rfl rfl)
theorem zlX2_17 : zL RX2 17 TX2 1 := Or.inl (zm1 (i := 206) rfl rfl)
theorem zlX2_21 : zL RX2 21 TX2 2 := Or.inl (zm1 (i := 207) rfl rfl)
theorem zlX3_9 : zL RX3 9 TX3 0 := Or.inl (zm1 (i := 160) rfl rfl)
theorem zlX3_15 : zL RX3 15 TX3 1 := Or.inl (zm1 (i := 163) rfl rfl)
theorem zlX4_12 : zL RX4 12 TX4 0 := Or.inl (zm1 (i := 237) rfl rfl)
theorem zlX4_18 : zL RX4 18 TX4 1 := Or.inl (zm1 (i := 239) rfl rfl)
theorem zlX4_22 : zL RX4 22 TX4 2 := Or.inl (zm2 (i := 1) rfl rfl)
theorem zlX4_25 : zL RX4 25 TX4 3 := Or.inl (zm2 (i := 3) rfl rfl)
theorem zlX5_7 : zL RX5 7 TX5 0 := Or.inl (zm5 (i := 174) rfl rfl)
theorem zlX5_13 : zL RX5 13 TX5 1 := Or.inl (zm5 (i := 176) rfl rfl)
theorem zlX5_16 : zL RX5 16 TX5 2 := Or.inl (zm5 (i := 178) rfl rfl)
theorem zlX6_11 : zL RX6 11 TX6 0 := Or.inl (zm2 (i := 25) rfl rfl)
theorem zlX6_19 : zL RX6 19 TX6 1 := Or.inl (zm2 (i := 26) rfl rfl)
theorem zlX6_22 : zL RX6 22 TX6 2 := Or.inl (zm2 (i := 27) rfl rfl)
theorem zlX6_25 : zL RX6 25 TX6 3 := Or.inl (zm2 (i := 28) rfl rfl)
theorem zlX6_29 : zL RX6 29 TX6 4 := Or.inl (zm2 (i := 29) rfl rfl)
theorem zlX7_12 : zL RX7 12 TX7 0 := Or.inl (zm1 (i := 169) rfl rfl)
theorem zlX7_18 : zL RX7 18 TX7 1 := Or.inl (zm1 (i := 172) rfl rfl)
theorem zlX7_22 : zL RX7 22 TX7 2 := Or.inl (zm1 (i := 174) rfl rfl)
theorem zlX7_25 : zL RX7 25 TX7 3 := Or.inl (zm1 (i := 177) rfl rfl)
theorem zlX7_28 : zL RX7 28 TX7 4 := Or.inl (zm1 (i := 180) rfl rfl)
theorem zlX7_31 : zL RX7 31 TX7 5 := Or.inl (zm1 (i := 182) rfl rfl)
theorem zlX8_9 : zL RX8 9 TX8 0 := Or.inl (zm1 (i := 57) rfl rfl)
theorem zlX8_15 : zL RX8 15 TX8 1 := Or.inl (zm1 (i := 58) rfl rfl)
theorem zlX8_18 : zL RX8 18 TX8 2 := Or.inl (zm1 (i := 59) rfl rfl)
theorem zlX8_21 : zL RX8 21 TX8 3 := Or.inl (zm1 (i := 60) rfl rfl)
theorem zlX9_9 : zL RX9 9 TX9 0 := Or.inl (zm1 (i := 114) rfl rfl)
theorem zlX9_15 : zL RX9 15 TX9 1 := Or.inl (zm1 (i := 115) rfl rfl)
theorem zlX9_22 : zL RX9 22 TX9 2 := Or.inl (zm1 (i := 117) rfl rfl)
theorem zlX9_26 : zL RX9 26 TX9 3 := Or.inl (zm1 (i := 118) rfl rfl)
theorem zlX9_29 : zL RX9 29 TX9 4 := Or.inl (zm1 (i := 119) rfl rfl)
theorem zlX9_32 : zL RX9 32 TX9 5 := Or.inl (zm1 (i := 120) rfl rfl)
theorem zlX9_35 : zL RX9 35 TX9 6 := Or.inl (zm1 (i := 121) rfl rfl)
theorem zlX9_38 : zL RX9 38 TX9 7 := Or.inl (zm1 (i := 122) rfl rfl)
theorem zlX9_41 : zL RX9 41 TX9 8 := Or.inl (zm1 (i := 123) rfl rfl)
theorem zlX9_44 : zL RX9 44 TX9 9 := Or.inl (zm1 (i := 124) rfl rfl)
theorem zlX12_9 : zL RX12 9 TX12 4 := Or.inl (zm2 (i := 132) rfl rfl)
theorem zlX12_15 : zL RX12 15 TX12 8 := Or.inl (zm2 (i := 140) rfl rfl)
theorem zlX12_23 : zL RX12 23 TX12 5 := Or.inl (zm2 (i := 134) rfl rfl)
theorem zlX12_27 : zL RX12 27 TX12 6 := Or.inl (zm2 (i := 136) rfl rfl)
theorem zlX12_46 : zL RX12 46 TX12 1 := Or.inl (zm2 (i := 127) rfl rfl)
theorem zlX12_59 : zL RX12 59 TX12 10 := Or.inl (zm2 (i := 143) rfl rfl)
theorem zlX12_66 : zL RX12 66 TX12 9 := Or.inl (zm2 (i := 142) rfl rfl)
theorem zlX12_74 : zL RX12 74 TX12 11 := Or.inl (zm2 (i := 145) rfl rfl)
theorem zlX12_86 : zL RX12 86 TX12 0 := Or.inl (zm2 (i := 126) rfl rfl)
theorem zlX12_89 : zL RX12 89 TX12 7 := Or.inl (zm2 (i := 139) rfl rfl)
theorem zlX12_96 : zL RX12 96 TX12 2 := Or.inl (zm2 (i := 130) rfl rfl)
theorem zlX10_70 : zL RX10 70 TX1 0 := Or.inr ⟨"NewsExchange", zh1 (i := 74) rfl rfl⟩
theorem zlX10_78 : zL RX10 78 TX9 1 := Or.inr ⟨"NewsExchange", zh1 (i := 116) rfl rfl⟩
theorem zlX10_108 : zL RX10 108 TX1 1 := Or.inr ⟨"NewsExchange", zh1 (i := 80) rfl rfl⟩
theorem zlX10_111 : zL RX10 111 TX7 3 := Or.inr ⟨"NewsExchange", zh1 (i := 179) rfl rfl⟩
theorem zlX10_114 : zL RX10 114 TX7 4 := Or.inr ⟨"NewsExchange", zh1 (i := 181) rfl rfl⟩
theorem zlX10_117 : zL RX10 117 TX7 1 := Or.inr ⟨"NewsExchange", zh1 (i := 173) rfl rfl⟩
theorem zlX10_125 : zL RX10 125 TX7 2 := Or.inr ⟨"NewsExchange", zh1 (i := 176) rfl rfl⟩
theorem zlX10_133 : zL RX10 133 TX1 2 := Or.inr ⟨"NewsExchange", zh1 (i := 83) rfl rfl⟩
theorem zlX10_136 : zL RX10 136 TX1 3 := Or.inr ⟨"NewsExchange", zh1 (i := 86) rfl rfl⟩
theorem zlX10_139 : zL RX10 139 TX1 5 := Or.inr ⟨"NewsExchange", zh1 (i := 91) rfl rfl⟩
theorem zlX10_142 : zL RX10 142 TX1 4 := Or.inr ⟨"NewsExchange", zh1 (i := 89) rfl rfl⟩
theorem zlX10_145 : zL RX10 145 TX1 6 := Or.inr ⟨"NewsExchange", zh1 (i := 94) rfl rfl⟩
theorem zlX10_171 : zL RX10 171 TX7 0 := Or.inr ⟨"NewsExchange", zh1 (i := 171) rfl rfl⟩
theorem zlX10_175 : zL RX10 175 TX3 0 := Or.inr ⟨"NewsExchange", zh1 (i := 161) rfl rfl⟩
theorem zlX10_218 : zL RX10 218 TX4 0 := Or.inr ⟨"NewsExchange", zh1 (i := 238) rfl rfl⟩
theorem zlX10_219 : zL RX10 219 TX4 1 := Or.inr ⟨"NewsExchange", zh2 (i := 0) rfl rfl⟩
theorem zlX10_220 : zL RX10 220 TX4 2 := Or.inr ⟨"NewsExchange", zh2 (i := 2) rfl rfl⟩
theorem zlX10_221 : zL RX10 221 TX4 3 := Or.inr ⟨"NewsExchange", zh2 (i := 4) rfl rfl⟩
theorem zlX0_22 : zL RX0 22 TX1 0 := Or.inr ⟨"NewsExchange", zh1 (i := 75) rfl rfl⟩
theorem zlX0_34 : zL RX0 34 TX1 1 := Or.inr ⟨"NewsExchange", zh1 (i := 78) rfl rfl⟩
theorem zlX0_45 : zL RX0 45 TX1 2 := Or.inr ⟨"NewsExchange", zh1 (i := 82) rfl rfl⟩
theorem zlX0_49 : zL RX0 49 TX1 3 := Or.inr ⟨"NewsExchange", zh1 (i := 85) rfl rfl⟩
theorem zlX0_56 : zL RX0 56 TX1 4 := Or.inr ⟨"NewsExchange", zh1 (i := 88) rfl rfl⟩
theorem zlX1_61 : zL RX1 61 TX3 0 := Or.inr ⟨"NewsExchange", zh1 (i := 162) rfl rfl⟩
theorem zlX4_28 : zL RX4 28 TX7 0 := Or.inr ⟨"NewsExchange", zh1 (i := 170) rfl rfl⟩
theorem zlX4_39 : zL RX4 39 TX7 3 := Or.inr ⟨"NewsExchange", zh1 (i := 178) rfl rfl⟩
theorem zlX4_46 : zL RX4 46 TX7 2 := Or.inr ⟨"NewsExchange", zh1 (i := 175) rfl rfl⟩
theorem zlX7_57 : zL RX7 57 TX5 0 := Or.inr ⟨"NewsExchange", zh5 (i := 175) rfl rfl⟩
theorem zlX7_60 : zL RX7 60 TX5 1 := Or.inr ⟨"NewsExchange", zh5 (i := 177) rfl rfl⟩
theorem zlX7_63 : zL RX7 63 TX5 2 := Or.inr ⟨"NewsExchange", zh5 (i := 179) rfl rfl⟩
theorem zlX9_80 : zL RX9 80 TX1 6 := Or.inr ⟨"NewsExchange", zh1 (i := 93) rfl rfl⟩
theorem zlX9_84 : zL RX9 84 TX1 1 := Or.inr ⟨"NewsExchange", zh1 (i := 79) rfl rfl⟩
theorem zlX9_93 : zL RX9 93 TX1 7 := Or.inr ⟨"NewsExchange", zh1 (i := 96) rfl rfl⟩
theorem zlX9_96 : zL RX9 96 TX1 0 := Or.inr ⟨"NewsExchange", zh1 (i := 76) rfl rfl⟩
theorem zlL_39 : zL RL 39 TX12 0 := Or.inr ⟨"NewsExchangeLaw", zh2 (i := 125) rfl rfl⟩
theorem zlL_56 : zL RL 56 TX12 1 := Or.inr ⟨"NewsExchangeLaw", zh2 (i := 128) rfl rfl⟩
theorem zlL_62 : zL RL 62 TX11 0 := Or.inr ⟨"NewsExchangeLaw", zh3 (i := 112) rfl rfl⟩
theorem zlL_65 : zL RL 65 TX11 1 := Or.inr ⟨"NewsExchangeLaw", zh3 (i := 114) rfl rfl⟩
theorem zlL_68 : zL RL 68 TX11 3 := Or.inr ⟨"NewsExchangeLaw", zh3 (i := 118) rfl rfl⟩
theorem zlL_72 : zL RL 72 TX11 2 := Or.inr ⟨"NewsExchangeLaw", zh3 (i := 116) rfl rfl⟩
theorem zlL_75 : zL RL 75 TX12 4 := Or.inr ⟨"NewsExchangeLaw", zh2 (i := 133) rfl rfl⟩
theorem zlL_87 : zL RL 87 TX12 5 := Or.inr ⟨"NewsExchangeLaw", zh2 (i := 135) rfl rfl⟩
theorem zlL_93 : zL RL 93 TX12 6 := Or.inr ⟨"NewsExchangeLaw", zh2 (i := 137) rfl rfl⟩
theorem zlL_98 : zL RL 98 TX12 7 := Or.inr ⟨"NewsExchangeLaw", zh2 (i := 138) rfl rfl⟩
theorem zlL_129 : zL RL 129 TX11 5 := Or.inr ⟨"NewsExchangeLaw", zh3 (i := 122) rfl rfl⟩
theorem zlL_132 : zL RL 132 TX12 2 := Or.inr ⟨"NewsExchangeLaw", zh2 (i := 129) rfl rfl⟩
theorem zlL_152 : zL RL 152 TX11 4 := Or.inr ⟨"NewsExchangeLaw", zh3 (i := 120) rfl rfl⟩
theorem zlL_167 : zL RL 167 TX12 10 := Or.inr ⟨"NewsExchangeLaw", zh2 (i := 144) rfl rfl⟩
theorem zlL_183 : zL RL 183 TX12 3 := Or.inr ⟨"NewsExchangeLaw", zh2 (i := 131) rfl rfl⟩
theorem zlL_186 : zL RL 186 TX12 8 := Or.inr ⟨"NewsExchangeLaw", zh2 (i := 141) rfl rfl⟩
theorem zlL_237 : zL RL 237 TX12 11 := Or.inr ⟨"NewsExchangeLaw", zh2 (i := 146) rfl rfl⟩
theorem zlX12_19 : zL RX12 19 TX11 4 := Or.inr ⟨"NewsExchangeLaw", zh3 (i := 119) rfl rfl⟩
theorem zlX12_30 : zL RX12 30 TX11 0 := Or.inr ⟨"NewsExchangeLaw", zh3 (i := 111) rfl rfl⟩
theorem zlX12_34 : zL RX12 34 TX11 1 := Or.inr ⟨"NewsExchangeLaw", zh3 (i := 113) rfl rfl⟩
theorem zlX12_43 : zL RX12 43 TX11 3 := Or.inr ⟨"NewsExchangeLaw", zh3 (i := 117) rfl rfl⟩
theorem zlX12_53 : zL RX12 53 TX11 2 := Or.inr ⟨"NewsExchangeLaw", zh3 (i := 115) rfl rfl⟩
theorem zlX12_56 : zL RX12 56 TX11 5 := Or.inr ⟨"NewsExchangeLaw", zh3 (i := 121) rfl rfl⟩
theorem zcX0_init : zC yX0_init cX0_init 1 none 0 := ⟨zm1 (i := 219) rfl rfl, zm1 (i := 8) rfl rfl, by decide +kernel⟩
theorem ziiX0_init : Cond.instanceMethod yX0_init ∈ zG := zm1 (i := 218) rfl rfl
theorem zcX0_find : zC yX0_find cX0_find 6 (some .int) 3 := ⟨zm5 (i := 95) rfl rfl, zm1 (i := 8) rfl rfl, by decide +kernel⟩
theorem ziX0_find : zI yX0_find := ⟨zm5 (i := 93) rfl rfl, zm5 (i := 94) rfl rfl⟩
theorem zcX0_rankPairs : zC yX0_rankPairs cX0_rankPairs 8 (some .boolean) 3 := ⟨zm5 (i := 99) rfl rfl, zm1 (i := 8) rfl rfl, by decide +kernel⟩
theorem ziX0_rankPairs : zI yX0_rankPairs := ⟨zm5 (i := 98) rfl rfl, zms (List.mem_of_getElem? (i := 18) rfl) rfl⟩
theorem zcX0_pairOf : zC yX0_pairOf cX0_pairOf 2 (some .int) 2 := ⟨zm5 (i := 104) rfl rfl, zm1 (i := 8) rfl rfl, by decide +kernel⟩
theorem zsX0_pairOf : Cond.static yX0_pairOf ∈ zG := zm5 (i := 103) rfl rfl
theorem zcX0_worth : zC yX0_worth cX0_worth 3 (some .long) 3 := ⟨zm5 (i := 109) rfl rfl, zm1 (i := 8) rfl rfl, by decide +kernel⟩
theorem zsX0_worth : Cond.static yX0_worth ∈ zG := zm5 (i := 108) rfl rfl
theorem zcX0_admit : zC yX0_admit cX0_admit 6 none 1 := ⟨zm5 (i := 116) rfl rfl, zm1 (i := 8) rfl rfl, by decide +kernel⟩
theorem ziX0_admit : zI yX0_admit := ⟨zm5 (i := 115) rfl rfl, zms (List.mem_of_getElem? (i := 19) rfl) rfl⟩
theorem zcX0_admitWith : zC yX0_admitWith cX0_admitWith 8 none 3 := ⟨zm5 (i := 120) rfl rfl, zm1 (i := 8) rfl rfl, by decide +kernel⟩
theorem ziX0_admitWith : zI yX0_admitWith := ⟨zm5 (i := 119) rfl rfl, zms (List.mem_of_getElem? (i := 20) rfl) rfl⟩
theorem zcX1_init : zC yX1_init cX1_init 1 none 0 := ⟨zm1 (i := 49) rfl rfl, zm1 (i := 3) rfl rfl, by decide +kernel⟩
theorem ziiX1_init : Cond.instanceMethod yX1_init ∈ zG := zm1 (i := 48) rfl rfl
theorem zcX1_clear : zC yX1_clear cX1_clear 1 none 0 := ⟨zm4 (i := 69) rfl rfl, zm1 (i := 3) rfl rfl, by decide +kernel⟩
theorem ziX1_clear : zI yX1_clear := ⟨zm4 (i := 67) rfl rfl, zm4 (i := 68) rfl rfl⟩
theorem zcX1_isFull : zC yX1_isFull cX1_isFull 1 (some .boolean) 0 := ⟨zm4 (i := 121) rfl rfl, zm1 (i := 3) rfl rfl, by decide +kernel⟩
theorem ziX1_isFull : zI yX1_isFull := ⟨zm4 (i := 119) rfl rfl, zm4 (i := 120) rfl rfl⟩
theorem zcX1_addLine : zC yX1_addLine cX1_addLine 5 none 4 := ⟨zm4 (i := 127) rfl rfl, zm1 (i := 3) rfl rfl, by decide +kernel⟩
theorem ziX1_addLine : zI yX1_addLine := ⟨zm4 (i := 125) rfl rfl, zm4 (i := 126) rfl rfl⟩
theorem zcX1_allLines : zC yX1_allLines cX1_allLines 1 (some .int) 0 := ⟨zm5 (i := 5) rfl rfl, zm1 (i := 3) rfl rfl, by decide +kernel⟩
theorem ziX1_allLines : zI yX1_allLines := ⟨zm5 (i := 3) rfl rfl, zm5 (i := 4) rfl rfl⟩
theorem zcX1_openLines : zC yX1_openLines cX1_openLines 5 (some .int) 1 := ⟨zm4 (i := 237) rfl rfl, zm1 (i := 3) rfl rfl, by decide +kernel⟩
theorem ziX1_openLines : zI yX1_openLines := ⟨zm4 (i := 235) rfl rfl, zm4 (i := 236) rfl rfl⟩
theorem zcX1_costOf : zC yX1_costOf cX1_costOf 4 (some .int) 1 := ⟨zm5 (i := 158) rfl rfl, zm1 (i := 3) rfl rfl, by decide +kernel⟩
theorem ziX1_costOf : zI yX1_costOf := ⟨zm5 (i := 156) rfl rfl, zm5 (i := 157) rfl rfl⟩
theorem zcX1_personsOf : zC yX1_personsOf cX1_personsOf 4 (some .int) 1 := ⟨zm4 (i := 228) rfl rfl, zm1 (i := 3) rfl rfl, by decide +kernel⟩
theorem ziX1_personsOf : zI yX1_personsOf := ⟨zm4 (i := 226) rfl rfl, zm4 (i := 227) rfl rfl⟩
theorem zcX1_otherPerson : zC yX1_otherPerson cX1_otherPerson 4 (some .int) 2 := ⟨zm5 (i := 219) rfl rfl, zm1 (i := 3) rfl rfl, by decide +kernel⟩
theorem ziX1_otherPerson : zI yX1_otherPerson := ⟨zm5 (i := 217) rfl rfl, zm5 (i := 218) rfl rfl⟩
theorem zcX1_gainOfLine : zC yX1_gainOfLine cX1_gainOfLine 6 (some .int) 2 := ⟨zm5 (i := 31) rfl rfl, zm1 (i := 3) rfl rfl, by decide +kernel⟩
theorem ziX1_gainOfLine : zI yX1_gainOfLine := ⟨zm5 (i := 29) rfl rfl, zm5 (i := 30) rfl rfl⟩
theorem zcX1_gainOf : zC yX1_gainOf cX1_gainOf 5 (some .int) 2 := ⟨zm5 (i := 27) rfl rfl, zm1 (i := 3) rfl rfl, by decide +kernel⟩
theorem ziX1_gainOf : zI yX1_gainOf := ⟨zm5 (i := 25) rfl rfl, zm5 (i := 26) rfl rfl⟩
theorem zcX1_makeCalls : zC yX1_makeCalls cX1_makeCalls 5 none 2 := ⟨zm5 (i := 154) rfl rfl, zm1 (i := 3) rfl rfl, by decide +kernel⟩
theorem ziX1_makeCalls : zI yX1_makeCalls := ⟨zm5 (i := 152) rfl rfl, zm5 (i := 153) rfl rfl⟩
theorem zcX1_spread : zC yX1_spread cX1_spread 5 (some .int) 2 := ⟨zm6 (i := 44) rfl rfl, zm1 (i := 3) rfl rfl, by decide +kernel⟩
theorem ziX1_spread : zI yX1_spread := ⟨zm6 (i := 42) rfl rfl, zm6 (i := 43) rfl rfl⟩
theorem zcX1_reached : zC yX1_reached cX1_reached 6 (some .int) 2 := ⟨zm6 (i := 83) rfl rfl, zm1 (i := 3) rfl rfl, by decide +kernel⟩
theorem ziX1_reached : zI yX1_reached := ⟨zm6 (i := 81) rfl rfl, zm6 (i := 82) rfl rfl⟩
theorem zcX1_neededLines : zC yX1_neededLines cX1_neededLines 6 (some .int) 2 := ⟨zm6 (i := 79) rfl rfl, zm1 (i := 3) rfl rfl, by decide +kernel⟩
theorem ziX1_neededLines : zI yX1_neededLines := ⟨zm6 (i := 77) rfl rfl, zm6 (i := 78) rfl rfl⟩
theorem zcX1_fillLeastCosts : zC yX1_fillLeastCosts cX1_fillLeastCosts 5 none 3 := ⟨zm6 (i := 61) rfl rfl, zm1 (i := 3) rfl rfl, by decide +kernel⟩
theorem ziX1_fillLeastCosts : zI yX1_fillLeastCosts := ⟨zm6 (i := 59) rfl rfl, zm6 (i := 60) rfl rfl⟩
theorem zcX1_lowerCosts : zC yX1_lowerCosts cX1_lowerCosts 6 none 2 := ⟨zm6 (i := 66) rfl rfl, zm1 (i := 3) rfl rfl, by decide +kernel⟩
theorem ziX1_lowerCosts : zI yX1_lowerCosts := ⟨zm6 (i := 65) rfl rfl, zms (List.mem_of_getElem? (i := 23) rfl) rfl⟩
theorem zcX1_added : zC yX1_added cX1_added 2 (some .int) 2 := ⟨zm6 (i := 69) rfl rfl, zm1 (i := 3) rfl rfl, by decide +kernel⟩
theorem zsX1_added : Cond.static yX1_added ∈ zG := zm6 (i := 68) rfl rfl
theorem zcX2_init : zC yX2_init cX2_init 2 none 0 := ⟨zm1 (i := 200) rfl rfl, zm1 (i := 7) rfl rfl, by decide +kernel⟩
theorem ziiX2_init : Cond.instanceMethod yX2_init ∈ zG := zm1 (i := 199) rfl rfl
theorem zcX2_forget : zC yX2_forget cX2_forget 1 none 0 := ⟨zm4 (i := 155) rfl rfl, zm1 (i := 7) rfl rfl, by decide +kernel⟩
theorem ziX2_forget : zI yX2_forget := ⟨zm4 (i := 153) rfl rfl, zm4 (i := 154) rfl rfl⟩
theorem zcX2_remember : zC yX2_remember cX2_remember 2 none 1 := ⟨zm5 (i := 10) rfl rfl, zm1 (i := 7) rfl rfl, by decide +kernel⟩
theorem ziX2_remember : zI yX2_remember := ⟨zm5 (i := 8) rfl rfl, zm5 (i := 9) rfl rfl⟩
theorem zcX3_init : zC yX3_init cX3_init 1 none 0 := ⟨zm1 (i := 158) rfl rfl, zm1 (i := 6) rfl rfl, by decide +kernel⟩
theorem ziiX3_init : Cond.instanceMethod yX3_init ∈ zG := zm1 (i := 157) rfl rfl
theorem zcX3_begin : zC yX3_begin cX3_begin 3 none 1 := ⟨zm2 (i := 48) rfl rfl, zm1 (i := 6) rfl rfl, by decide +kernel⟩
theorem ziX3_begin : zI yX3_begin := ⟨zm2 (i := 46) rfl rfl, zm2 (i := 47) rfl rfl⟩
theorem zcX3_copyFrom : zC yX3_copyFrom cX3_copyFrom 3 none 1 := ⟨zm5 (i := 18) rfl rfl, zm1 (i := 6) rfl rfl, by decide +kernel⟩
theorem ziX3_copyFrom : zI yX3_copyFrom := ⟨zm5 (i := 16) rfl rfl, zm5 (i := 17) rfl rfl⟩
theorem zcX3_knowersOf : zC yX3_knowersOf cX3_knowersOf 4 (some .int) 1 := ⟨zm5 (i := 227) rfl rfl, zm1 (i := 6) rfl rfl, by decide +kernel⟩
theorem ziX3_knowersOf : zI yX3_knowersOf := ⟨zm5 (i := 225) rfl rfl, zm5 (i := 226) rfl rfl⟩
theorem zcX3_missingPieces : zC yX3_missingPieces cX3_missingPieces 3 (some .int) 0 := ⟨zm5 (i := 202) rfl rfl, zm1 (i := 6) rfl rfl, by decide +kernel⟩
theorem ziX3_missingPieces : zI yX3_missingPieces := ⟨zm5 (i := 200) rfl rfl, zm5 (i := 201) rfl rfl⟩
theorem zcX4_init : zC yX4_init cX4_init 1 none 0 := ⟨zm1 (i := 233) rfl rfl, zm1 (i := 9) rfl rfl, by decide +kernel⟩
theorem ziiX4_init : Cond.instanceMethod yX4_init ∈ zG := zm1 (i := 232) rfl rfl
theorem zcX4_make : zC yX4_make cX4_make 6 none 3 := ⟨zm6 (i := 23) rfl rfl, zm1 (i := 9) rfl rfl, by decide +kernel⟩
theorem ziX4_make : zI yX4_make := ⟨zm6 (i := 21) rfl rfl, zm6 (i := 22) rfl rfl⟩
theorem zcX5_init : zC yX5_init cX5_init 4 none 3 := ⟨zm5 (i := 172) rfl rfl, zm1 (i := 30) rfl rfl, by decide +kernel⟩
theorem ziiX5_init : Cond.instanceMethod yX5_init ∈ zG := zm5 (i := 171) rfl rfl
theorem zcX6_init : zC yX6_init cX6_init 2 none 0 := ⟨zm2 (i := 18) rfl rfl, zm1 (i := 10) rfl rfl, by decide +kernel⟩
theorem ziiX6_init : Cond.instanceMethod yX6_init ∈ zG := zm2 (i := 17) rfl rfl
theorem zcX7_init : zC yX7_init cX7_init 1 none 0 := ⟨zm1 (i := 152) rfl rfl, zm1 (i := 5) rfl rfl, by decide +kernel⟩
theorem ziiX7_init : Cond.instanceMethod yX7_init ∈ zG := zm1 (i := 151) rfl rfl
theorem zcX7_begin : zC yX7_begin cX7_begin 2 none 1 := ⟨zm2 (i := 44) rfl rfl, zm1 (i := 5) rfl rfl, by decide +kernel⟩
theorem ziX7_begin : zI yX7_begin := ⟨zm2 (i := 42) rfl rfl, zm2 (i := 43) rfl rfl⟩
theorem zcX7_copyFrom : zC yX7_copyFrom cX7_copyFrom 2 none 1 := ⟨zm5 (i := 14) rfl rfl, zm1 (i := 5) rfl rfl, by decide +kernel⟩
theorem ziX7_copyFrom : zI yX7_copyFrom := ⟨zm5 (i := 12) rfl rfl, zm5 (i := 13) rfl rfl⟩
theorem zcX7_endRound : zC yX7_endRound cX7_endRound 2 none 1 := ⟨zm5 (i := 162) rfl rfl, zm1 (i := 5) rfl rfl, by decide +kernel⟩
theorem ziX7_endRound : zI yX7_endRound := ⟨zm5 (i := 160) rfl rfl, zm5 (i := 161) rfl rfl⟩
theorem zcX7_spentUpTo : zC yX7_spentUpTo cX7_spentUpTo 3 (some .int) 1 := ⟨zm5 (i := 169) rfl rfl, zm1 (i := 5) rfl rfl, by decide +kernel⟩
theorem ziX7_spentUpTo : zI yX7_spentUpTo := ⟨zm5 (i := 167) rfl rfl, zm5 (i := 168) rfl rfl⟩
theorem zcX8_init : zC yX8_init cX8_init 1 none 0 := ⟨zm1 (i := 55) rfl rfl, zm1 (i := 4) rfl rfl, by decide +kernel⟩
theorem ziiX8_init : Cond.instanceMethod yX8_init ∈ zG := zm1 (i := 54) rfl rfl
theorem zcX8_clear : zC yX8_clear cX8_clear 1 none 0 := ⟨zm4 (i := 73) rfl rfl, zm1 (i := 4) rfl rfl, by decide +kernel⟩
theorem ziX8_clear : zI yX8_clear := ⟨zm4 (i := 71) rfl rfl, zm4 (i := 72) rfl rfl⟩
theorem zcX8_isFull : zC yX8_isFull cX8_isFull 1 (some .boolean) 0 := ⟨zm4 (i := 137) rfl rfl, zm1 (i := 4) rfl rfl, by decide +kernel⟩
theorem ziX8_isFull : zI yX8_isFull := ⟨zm4 (i := 135) rfl rfl, zm4 (i := 136) rfl rfl⟩
theorem zcX8_add : zC yX8_add cX8_add 4 none 3 := ⟨zm4 (i := 141) rfl rfl, zm1 (i := 4) rfl rfl, by decide +kernel⟩
theorem ziX8_add : zI yX8_add := ⟨zm4 (i := 139) rfl rfl, zm4 (i := 140) rfl rfl⟩
theorem zcX8_countOf : zC yX8_countOf cX8_countOf 4 (some .int) 1 := ⟨zm6 (i := 1) rfl rfl, zm1 (i := 4) rfl rfl, by decide +kernel⟩
theorem ziX8_countOf : zI yX8_countOf := ⟨zm5 (i := 239) rfl rfl, zm6 (i := 0) rfl rfl⟩
theorem zcX8_keptOut : zC yX8_keptOut cX8_keptOut 4 (some .int) 1 := ⟨zm5 (i := 1) rfl rfl, zm1 (i := 4) rfl rfl, by decide +kernel⟩
theorem ziX8_keptOut : zI yX8_keptOut := ⟨zm4 (i := 239) rfl rfl, zm5 (i := 0) rfl rfl⟩
theorem zcX9_init : zC yX9_init cX9_init 1 none 0 := ⟨zm1 (i := 43) rfl rfl, zm1 (i := 2) rfl rfl, by decide +kernel⟩
theorem ziiX9_init : Cond.instanceMethod yX9_init ∈ zG := zm1 (i := 42) rfl rfl
theorem zcX9_putFourBytes : zC yX9_putFourBytes cX9_putFourBytes 3 none 1 := ⟨zm3 (i := 228) rfl rfl, zm1 (i := 2) rfl rfl, by decide +kernel⟩
theorem ziX9_putFourBytes : zI yX9_putFourBytes := ⟨zm3 (i := 226) rfl rfl, zm3 (i := 227) rfl rfl⟩
theorem zcX9_readExchange : zC yX9_readExchange cX9_readExchange 3 (some .int) 1 := ⟨zm4 (i := 64) rfl rfl, zm1 (i := 2) rfl rfl, by decide +kernel⟩
theorem ziX9_readExchange : zI yX9_readExchange := ⟨zm4 (i := 62) rfl rfl, zm4 (i := 63) rfl rfl⟩
theorem zcX9_handOver : zC yX9_handOver cX9_handOver 3 (some (.object "NewsExchange$Exchange")) 1 := ⟨zm4 (i := 147) rfl rfl, zm1 (i := 2) rfl rfl, by decide +kernel⟩
theorem ziX9_handOver : zI yX9_handOver := ⟨zm4 (i := 145) rfl rfl, zm4 (i := 146) rfl rfl⟩
theorem zcX9_fail : zC yX9_fail cX9_fail 2 (some .boolean) 1 := ⟨zm4 (i := 104) rfl rfl, zm1 (i := 2) rfl rfl, by decide +kernel⟩
theorem ziX9_fail : zI yX9_fail := ⟨zm4 (i := 103) rfl rfl, zms (List.mem_of_getElem? (i := 7) rfl) rfl⟩
theorem zcX9_readStatement : zC yX9_readStatement cX9_readStatement 2 (some .boolean) 1 := ⟨zm4 (i := 89) rfl rfl, zm1 (i := 2) rfl rfl, by decide +kernel⟩
theorem ziX9_readStatement : zI yX9_readStatement := ⟨zm4 (i := 88) rfl rfl, zms (List.mem_of_getElem? (i := 4) rfl) rfl⟩
theorem zcX9_readPeople : zC yX9_readPeople cX9_readPeople 2 (some .boolean) 1 := ⟨zm4 (i := 100) rfl rfl, zm1 (i := 2) rfl rfl, by decide +kernel⟩
theorem ziX9_readPeople : zI yX9_readPeople := ⟨zm4 (i := 99) rfl rfl, zms (List.mem_of_getElem? (i := 6) rfl) rfl⟩
theorem zcX9_readLine : zC yX9_readLine cX9_readLine 4 (some .boolean) 0 := ⟨zm4 (i := 117) rfl rfl, zm1 (i := 2) rfl rfl, by decide +kernel⟩
theorem ziX9_readLine : zI yX9_readLine := ⟨zm4 (i := 116) rfl rfl, zms (List.mem_of_getElem? (i := 10) rfl) rfl⟩
theorem zcX9_readSpan : zC yX9_readSpan cX9_readSpan 5 (some .boolean) 2 := ⟨zm4 (i := 133) rfl rfl, zm1 (i := 2) rfl rfl, by decide +kernel⟩
theorem ziX9_readSpan : zI yX9_readSpan := ⟨zm4 (i := 132) rfl rfl, zms (List.mem_of_getElem? (i := 11) rfl) rfl⟩
theorem zcX9_readNumber : zC yX9_readNumber cX9_readNumber 4 (some .boolean) 2 := ⟨zm4 (i := 108) rfl rfl, zm1 (i := 2) rfl rfl, by decide +kernel⟩
theorem ziX9_readNumber : zI yX9_readNumber := ⟨zm4 (i := 107) rfl rfl, zms (List.mem_of_getElem? (i := 8) rfl) rfl⟩
theorem zcX9_readSemicolon : zC yX9_readSemicolon cX9_readSemicolon 1 (some .boolean) 0 := ⟨zm4 (i := 112) rfl rfl, zm1 (i := 2) rfl rfl, by decide +kernel⟩
theorem ziX9_readSemicolon : zI yX9_readSemicolon := ⟨zm4 (i := 111) rfl rfl, zms (List.mem_of_getElem? (i := 9) rfl) rfl⟩
theorem zcX9_isWord : zC yX9_isWord cX9_isWord 3 (some .boolean) 1 := ⟨zm4 (i := 94) rfl rfl, zm1 (i := 2) rfl rfl, by decide +kernel⟩
theorem ziX9_isWord : zI yX9_isWord := ⟨zm4 (i := 93) rfl rfl, zms (List.mem_of_getElem? (i := 5) rfl) rfl⟩
theorem zcX9_nextToken : zC yX9_nextToken cX9_nextToken 1 none 0 := ⟨zm4 (i := 77) rfl rfl, zm1 (i := 2) rfl rfl, by decide +kernel⟩
theorem ziX9_nextToken : zI yX9_nextToken := ⟨zm4 (i := 76) rfl rfl, zms (List.mem_of_getElem? (i := 1) rfl) rfl⟩
theorem zcX9_skipSeparators : zC yX9_skipSeparators cX9_skipSeparators 1 none 0 := ⟨zm4 (i := 81) rfl rfl, zm1 (i := 2) rfl rfl, by decide +kernel⟩
theorem ziX9_skipSeparators : zI yX9_skipSeparators := ⟨zm4 (i := 80) rfl rfl, zms (List.mem_of_getElem? (i := 2) rfl) rfl⟩
theorem zcX9_takeRun : zC yX9_takeRun cX9_takeRun 3 (some .boolean) 2 := ⟨zm4 (i := 85) rfl rfl, zm1 (i := 2) rfl rfl, by decide +kernel⟩
theorem ziX9_takeRun : zI yX9_takeRun := ⟨zm4 (i := 84) rfl rfl, zms (List.mem_of_getElem? (i := 3) rfl) rfl⟩
theorem zcX10_init : zC yX10_init cX10_init 2 none 0 := ⟨zm1 (i := 35) rfl rfl, zm1 (i := 1) rfl rfl, by decide +kernel⟩
theorem ziiX10_init : Cond.instanceMethod yX10_init ∈ zG := zm1 (i := 34) rfl rfl
theorem zcX10_append : zC yX10_append cX10_append 6 (some .int) 5 := ⟨zm3 (i := 224) rfl rfl, zm1 (i := 1) rfl rfl, by decide +kernel⟩
theorem ziX10_append : zI yX10_append := ⟨zm3 (i := 222) rfl rfl, zm3 (i := 223) rfl rfl⟩
theorem zcX10_parse : zC yX10_parse cX10_parse 3 (some .int) 1 := ⟨zm3 (i := 233) rfl rfl, zm1 (i := 1) rfl rfl, by decide +kernel⟩
theorem ziX10_parse : zI yX10_parse := ⟨zm3 (i := 231) rfl rfl, zm3 (i := 232) rfl rfl⟩
theorem zcX10_startAnew : zC yX10_startAnew cX10_startAnew 2 none 0 := ⟨zm4 (i := 151) rfl rfl, zm1 (i := 1) rfl rfl, by decide +kernel⟩
theorem ziX10_startAnew : zI yX10_startAnew := ⟨zm4 (i := 150) rfl rfl, zms (List.mem_of_getElem? (i := 12) rfl) rfl⟩
theorem zcX10_size : zC yX10_size cX10_size 2 (some .int) 1 := ⟨zm4 (i := 159) rfl rfl, zm1 (i := 1) rfl rfl, by decide +kernel⟩
theorem ziX10_size : zI yX10_size := ⟨zm4 (i := 157) rfl rfl, zm4 (i := 158) rfl rfl⟩
theorem zcX10_line : zC yX10_line cX10_line 3 (some .int) 2 := ⟨zm5 (i := 237) rfl rfl, zm1 (i := 1) rfl rfl, by decide +kernel⟩
theorem ziX10_line : zI yX10_line := ⟨zm5 (i := 235) rfl rfl, zm5 (i := 236) rfl rfl⟩
theorem zcX10_isUsable : zC yX10_isUsable cX10_isUsable 3 (some .boolean) 2 := ⟨zm5 (i := 232) rfl rfl, zm1 (i := 1) rfl rfl, by decide +kernel⟩
theorem ziX10_isUsable : zI yX10_isUsable := ⟨zm5 (i := 230) rfl rfl, zm5 (i := 231) rfl rfl⟩
theorem zcX10_known : zC yX10_known cX10_known 2 (some .int) 1 := ⟨zm5 (i := 211) rfl rfl, zm1 (i := 1) rfl rfl, by decide +kernel⟩
theorem ziX10_known : zI yX10_known := ⟨zm5 (i := 209) rfl rfl, zm5 (i := 210) rfl rfl⟩
theorem zcX10_knowers : zC yX10_knowers cX10_knowers 2 (some .int) 1 := ⟨zm5 (i := 223) rfl rfl, zm1 (i := 1) rfl rfl, by decide +kernel⟩
theorem ziX10_knowers : zI yX10_knowers := ⟨zm5 (i := 221) rfl rfl, zm5 (i := 222) rfl rfl⟩
theorem zcX10_missing : zC yX10_missing cX10_missing 1 (some .int) 0 := ⟨zm5 (i := 198) rfl rfl, zm1 (i := 1) rfl rfl, by decide +kernel⟩
theorem ziX10_missing : zI yX10_missing := ⟨zm5 (i := 196) rfl rfl, zm5 (i := 197) rfl rfl⟩
theorem zcX10_partner : zC yX10_partner cX10_partner 2 (some .int) 1 := ⟨zm5 (i := 215) rfl rfl, zm1 (i := 1) rfl rfl, by decide +kernel⟩
theorem ziX10_partner : zI yX10_partner := ⟨zm5 (i := 213) rfl rfl, zm5 (i := 214) rfl rfl⟩
theorem zcX10_arranged : zC yX10_arranged cX10_arranged 1 (some .int) 0 := ⟨zm5 (i := 193) rfl rfl, zm1 (i := 1) rfl rfl, by decide +kernel⟩
theorem ziX10_arranged : zI yX10_arranged := ⟨zm5 (i := 191) rfl rfl, zm5 (i := 192) rfl rfl⟩
theorem zcX10_gain : zC yX10_gain cX10_gain 1 (some .int) 0 := ⟨zm5 (i := 23) rfl rfl, zm1 (i := 1) rfl rfl, by decide +kernel⟩
theorem ziX10_gain : zI yX10_gain := ⟨zm5 (i := 21) rfl rfl, zm5 (i := 22) rfl rfl⟩
theorem zcX10_spent : zC yX10_spent cX10_spent 2 (some .int) 1 := ⟨zm6 (i := 93) rfl rfl, zm1 (i := 1) rfl rfl, by decide +kernel⟩
theorem ziX10_spent : zI yX10_spent := ⟨zm6 (i := 91) rfl rfl, zm6 (i := 92) rfl rfl⟩
theorem zcX10_best : zC yX10_best cX10_best 3 (some .int) 1 := ⟨zm6 (i := 6) rfl rfl, zm1 (i := 1) rfl rfl, by decide +kernel⟩
theorem ziX10_best : zI yX10_best := ⟨zm6 (i := 4) rfl rfl, zm6 (i := 5) rfl rfl⟩
theorem zcX10_bestOfNextRound : zC yX10_bestOfNextRound cX10_bestOfNextRound 1 (some .int) 0 := ⟨zm5 (i := 91) rfl rfl, zm1 (i := 1) rfl rfl, by decide +kernel⟩
theorem ziX10_bestOfNextRound : zI yX10_bestOfNextRound := ⟨zm5 (i := 90) rfl rfl, zms (List.mem_of_getElem? (i := 17) rfl) rfl⟩
theorem zcX10_plan : zC yX10_plan cX10_plan 2 (some .int) 1 := ⟨zm6 (i := 18) rfl rfl, zm1 (i := 1) rfl rfl, by decide +kernel⟩
theorem ziX10_plan : zI yX10_plan := ⟨zm6 (i := 16) rfl rfl, zm6 (i := 17) rfl rfl⟩
theorem zcX10_soonest : zC yX10_soonest cX10_soonest 5 (some .int) 2 := ⟨zm6 (i := 40) rfl rfl, zm1 (i := 1) rfl rfl, by decide +kernel⟩
theorem ziX10_soonest : zI yX10_soonest := ⟨zm6 (i := 38) rfl rfl, zm6 (i := 39) rfl rfl⟩
theorem zcX10_cheapest : zC yX10_cheapest cX10_cheapest 3 (some .int) 2 := ⟨zm6 (i := 52) rfl rfl, zm1 (i := 1) rfl rfl, by decide +kernel⟩
theorem ziX10_cheapest : zI yX10_cheapest := ⟨zm6 (i := 50) rfl rfl, zm6 (i := 51) rfl rfl⟩
theorem zcX10_vital : zC yX10_vital cX10_vital 4 (some .int) 0 := ⟨zm6 (i := 75) rfl rfl, zm1 (i := 1) rfl rfl, by decide +kernel⟩
theorem ziX10_vital : zI yX10_vital := ⟨zm6 (i := 73) rfl rfl, zm6 (i := 74) rfl rfl⟩
theorem zcX10_arrange : zC yX10_arrange cX10_arrange 2 (some .int) 1 := ⟨zm4 (i := 181) rfl rfl, zm1 (i := 1) rfl rfl, by decide +kernel⟩
theorem ziX10_arrange : zI yX10_arrange := ⟨zm4 (i := 179) rfl rfl, zm4 (i := 180) rfl rfl⟩
theorem zcX10_canArrange : zC yX10_canArrange cX10_canArrange 3 (some .boolean) 1 := ⟨zm4 (i := 224) rfl rfl, zm1 (i := 1) rfl rfl, by decide +kernel⟩
theorem ziX10_canArrange : zI yX10_canArrange := ⟨zm4 (i := 223) rfl rfl, zms (List.mem_of_getElem? (i := 14) rfl) rfl⟩
theorem zcX10_takeBack : zC yX10_takeBack cX10_takeBack 2 (some .int) 1 := ⟨zm5 (i := 52) rfl rfl, zm1 (i := 1) rfl rfl, by decide +kernel⟩
theorem ziX10_takeBack : zI yX10_takeBack := ⟨zm5 (i := 50) rfl rfl, zm5 (i := 51) rfl rfl⟩
theorem zcX10_arrangeBest : zC yX10_arrangeBest cX10_arrangeBest 1 (some .int) 0 := ⟨zm5 (i := 87) rfl rfl, zm1 (i := 1) rfl rfl, by decide +kernel⟩
theorem ziX10_arrangeBest : zI yX10_arrangeBest := ⟨zm5 (i := 85) rfl rfl, zm5 (i := 86) rfl rfl⟩
theorem zcX10_ring : zC yX10_ring cX10_ring 2 (some .int) 0 := ⟨zm5 (i := 149) rfl rfl, zm1 (i := 1) rfl rfl, by decide +kernel⟩
theorem ziX10_ring : zI yX10_ring := ⟨zm5 (i := 147) rfl rfl, zm5 (i := 148) rfl rfl⟩
theorem zcX10_cut : zC yX10_cut cX10_cut 3 (some .boolean) 1 := ⟨zm5 (i := 60) rfl rfl, zm1 (i := 1) rfl rfl, by decide +kernel⟩
theorem ziX10_cut : zI yX10_cut := ⟨zm5 (i := 58) rfl rfl, zm5 (i := 59) rfl rfl⟩
theorem zcX10_mend : zC yX10_mend cX10_mend 2 (some .int) 1 := ⟨zm5 (i := 68) rfl rfl, zm1 (i := 1) rfl rfl, by decide +kernel⟩
theorem ziX10_mend : zI yX10_mend := ⟨zm5 (i := 66) rfl rfl, zm5 (i := 67) rfl rfl⟩
theorem zcX10_tell : zC yX10_tell cX10_tell 3 (some .int) 2 := ⟨zm5 (i := 128) rfl rfl, zm1 (i := 1) rfl rfl, by decide +kernel⟩
theorem ziX10_tell : zI yX10_tell := ⟨zm5 (i := 126) rfl rfl, zm5 (i := 127) rfl rfl⟩
theorem zcX10_requireLine : zC yX10_requireLine cX10_requireLine 2 none 1 := ⟨zm4 (i := 185) rfl rfl, zm1 (i := 1) rfl rfl, by decide +kernel⟩
theorem ziX10_requireLine : zI yX10_requireLine := ⟨zm4 (i := 184) rfl rfl, zms (List.mem_of_getElem? (i := 13) rfl) rfl⟩
theorem zcX10_requirePerson : zC yX10_requirePerson cX10_requirePerson 2 none 1 := ⟨zm5 (i := 132) rfl rfl, zm1 (i := 1) rfl rfl, by decide +kernel⟩
theorem ziX10_requirePerson : zI yX10_requirePerson := ⟨zm5 (i := 131) rfl rfl, zms (List.mem_of_getElem? (i := 21) rfl) rfl⟩
theorem zcX10_uncutLines : zC yX10_uncutLines cX10_uncutLines 1 (some .int) 0 := ⟨zm6 (i := 56) rfl rfl, zm1 (i := 1) rfl rfl, by decide +kernel⟩
theorem ziX10_uncutLines : zI yX10_uncutLines := ⟨zm6 (i := 55) rfl rfl, zms (List.mem_of_getElem? (i := 22) rfl) rfl⟩
theorem zcX10_usableLines : zC yX10_usableLines cX10_usableLines 2 (some .int) 1 := ⟨zm4 (i := 233) rfl rfl, zm1 (i := 1) rfl rfl, by decide +kernel⟩
theorem ziX10_usableLines : zI yX10_usableLines := ⟨zm4 (i := 232) rfl rfl, zms (List.mem_of_getElem? (i := 15) rfl) rfl⟩
theorem zcX10_isIn : zC yX10_isIn cX10_isIn 2 (some .boolean) 2 := ⟨zm4 (i := 204) rfl rfl, zm1 (i := 1) rfl rfl, by decide +kernel⟩
theorem zsX10_isIn : Cond.static yX10_isIn ∈ zG := zm4 (i := 203) rfl rfl
theorem zcX11_init : zC yX11_init cX11_init 1 none 0 := ⟨zm3 (i := 109) rfl rfl, zm1 (i := 23) rfl rfl, by decide +kernel⟩
theorem ziiX11_init : Cond.instanceMethod yX11_init ∈ zG := zm3 (i := 108) rfl rfl
theorem zcX12_init : zC yX12_init cX12_init 1 none 0 := ⟨zm2 (i := 121) rfl rfl, zm1 (i := 15) rfl rfl, by decide +kernel⟩
theorem ziiX12_init : Cond.instanceMethod yX12_init ∈ zG := zm2 (i := 120) rfl rfl
theorem zcX12_usable : zC yX12_usable cX12_usable 7 (some .boolean) 2 := ⟨zm4 (i := 173) rfl rfl, zm1 (i := 15) rfl rfl, by decide +kernel⟩
theorem ziX12_usable : zI yX12_usable := ⟨zm4 (i := 171) rfl rfl, zm4 (i := 172) rfl rfl⟩
theorem zcX12_gain : zC yX12_gain cX12_gain 5 (some .int) 2 := ⟨zm5 (i := 44) rfl rfl, zm1 (i := 15) rfl rfl, by decide +kernel⟩
theorem ziX12_gain : zI yX12_gain := ⟨zm5 (i := 42) rfl rfl, zm5 (i := 43) rfl rfl⟩
theorem zcX12_gainOf : zC yX12_gainOf cX12_gainOf 5 (some .int) 2 := ⟨zm5 (i := 40) rfl rfl, zm1 (i := 15) rfl rfl, by decide +kernel⟩
theorem ziX12_gainOf : zI yX12_gainOf := ⟨zm5 (i := 38) rfl rfl, zm5 (i := 39) rfl rfl⟩
theorem zcX12_cost : zC yX12_cost cX12_cost 4 (some .int) 1 := ⟨zm5 (i := 82) rfl rfl, zm1 (i := 15) rfl rfl, by decide +kernel⟩
theorem ziX12_cost : zI yX12_cost := ⟨zm5 (i := 80) rfl rfl, zm5 (i := 81) rfl rfl⟩
theorem zcX12_arranged : zC yX12_arranged cX12_arranged 3 (some .int) 0 := ⟨zm5 (i := 36) rfl rfl, zm1 (i := 15) rfl rfl, by decide +kernel⟩
theorem ziX12_arranged : zI yX12_arranged := ⟨zm5 (i := 34) rfl rfl, zm5 (i := 35) rfl rfl⟩
theorem zcX12_best : zC yX12_best cX12_best 3 (some .int) 2 := ⟨zm5 (i := 73) rfl rfl, zm1 (i := 15) rfl rfl, by decide +kernel⟩
theorem ziX12_best : zI yX12_best := ⟨zm5 (i := 71) rfl rfl, zm5 (i := 72) rfl rfl⟩
theorem zcX12_tries : zC yX12_tries cX12_tries 8 none 5 := ⟨zm5 (i := 77) rfl rfl, zm1 (i := 15) rfl rfl, by decide +kernel⟩
theorem ziX12_tries : zI yX12_tries := ⟨zm5 (i := 76) rfl rfl, zms (List.mem_of_getElem? (i := 16) rfl) rfl⟩
theorem zcX12_after : zC yX12_after cX12_after 5 (some (.array .int)) 2 := ⟨zm5 (i := 139) rfl rfl, zm1 (i := 15) rfl rfl, by decide +kernel⟩
theorem ziX12_after : zI yX12_after := ⟨zm5 (i := 137) rfl rfl, zm5 (i := 138) rfl rfl⟩
theorem zcX12_missing : zC yX12_missing cX12_missing 4 (some .int) 1 := ⟨zm5 (i := 207) rfl rfl, zm1 (i := 15) rfl rfl, by decide +kernel⟩
theorem ziX12_missing : zI yX12_missing := ⟨zm5 (i := 205) rfl rfl, zm5 (i := 206) rfl rfl⟩
theorem zcX12_plan : zC yX12_plan cX12_plan 6 (some (.array .int)) 0 := ⟨zm6 (i := 11) rfl rfl, zm1 (i := 15) rfl rfl, by decide +kernel⟩
theorem ziX12_plan : zI yX12_plan := ⟨zm6 (i := 9) rfl rfl, zm6 (i := 10) rfl rfl⟩
theorem zcX12_soonest : zC yX12_soonest cX12_soonest 7 (some .int) 2 := ⟨zm6 (i := 48) rfl rfl, zm1 (i := 15) rfl rfl, by decide +kernel⟩
theorem ziX12_soonest : zI yX12_soonest := ⟨zm6 (i := 46) rfl rfl, zm6 (i := 47) rfl rfl⟩
theorem zcX12_prices : zC yX12_prices cX12_prices 7 (some (.array .int)) 2 := ⟨zm6 (i := 34) rfl rfl, zm1 (i := 15) rfl rfl, by decide +kernel⟩
theorem ziX12_prices : zI yX12_prices := ⟨zm6 (i := 32) rfl rfl, zm6 (i := 33) rfl rfl⟩
theorem zcX12_vital : zC yX12_vital cX12_vital 7 (some .int) 0 := ⟨zm6 (i := 88) rfl rfl, zm1 (i := 15) rfl rfl, by decide +kernel⟩
theorem ziX12_vital : zI yX12_vital := ⟨zm6 (i := 86) rfl rfl, zm6 (i := 87) rfl rfl⟩
theorem zcJ5_init_d00df : zC yJ5_init_d00df cJ5_init_d00df 2 none 1 := ⟨zm2 (i := 90) rfl rfl, zm1 (i := 11) rfl rfl, by decide +kernel⟩
theorem ziiJ5_init_d00df : Cond.instanceMethod yJ5_init_d00df ∈ zG := zm2 (i := 89) rfl rfl
theorem zcJ5_length_8abf5 : zC yJ5_length_8abf5 cJ5_length_8abf5 1 (some .int) 0 := ⟨zm3 (i := 167) rfl rfl, zm1 (i := 11) rfl rfl, by decide +kernel⟩
theorem zcJ5_ensureCapacityInternal_d00df : zC yJ5_ensureCapacityInternal_d00df cJ5_ensureCapacityInternal_d00df 3 none 1 := ⟨zm2 (i := 192) rfl rfl, zm1 (i := 11) rfl rfl, by decide +kernel⟩
theorem zcJ5_newCapacity_0f7a4 : zC yJ5_newCapacity_0f7a4 cJ5_newCapacity_0f7a4 6 (some .int) 1 := ⟨zm2 (i := 196) rfl rfl, zm1 (i := 11) rfl rfl, by decide +kernel⟩
theorem zcJ5_inflate_da8c8 : zC yJ5_inflate_da8c8 cJ5_inflate_da8c8 2 none 0 := ⟨zm3 (i := 36) rfl rfl, zm1 (i := 11) rfl rfl, by decide +kernel⟩
theorem zcJ5_append_cf1ce : zC yJ5_append_cf1ce cJ5_append_cf1ce 3 (some (.object "java/lang/AbstractStringBuilder")) 1 := ⟨zm2 (i := 184) rfl rfl, zm1 (i := 11) rfl rfl, by decide +kernel⟩
theorem zcJ5_appendNull_278bc : zC yJ5_appendNull_278bc cJ5_appendNull_278bc 3 (some (.object "java/lang/AbstractStringBuilder")) 0 := ⟨zm2 (i := 188) rfl rfl, zm1 (i := 11) rfl rfl, by decide +kernel⟩
theorem zcJ5_append_3fe6f : zC yJ5_append_3fe6f cJ5_append_3fe6f 2 (some (.object "java/lang/AbstractStringBuilder")) 1 := ⟨zm3 (i := 89) rfl rfl, zm1 (i := 11) rfl rfl, by decide +kernel⟩
theorem zcJ5_append_c97b9 : zC yJ5_append_c97b9 cJ5_append_c97b9 4 (some (.object "java/lang/AbstractStringBuilder")) 1 := ⟨zm3 (i := 64) rfl rfl, zm1 (i := 11) rfl rfl, by decide +kernel⟩
theorem zcJ5_getValue_6d5f1 : zC yJ5_getValue_6d5f1 cJ5_getValue_6d5f1 1 (some (.array .byte)) 0 := ⟨zm3 (i := 159) rfl rfl, zm1 (i := 11) rfl rfl, by decide +kernel⟩
theorem zcJ5_isLatin1_aae02 : zC yJ5_isLatin1_aae02 cJ5_isLatin1_aae02 1 (some .boolean) 0 := ⟨zm2 (i := 228) rfl rfl, zm1 (i := 11) rfl rfl, by decide +kernel⟩
theorem zcJ5_inflateIfNeededFor_a7421 : zC yJ5_inflateIfNeededFor_a7421 cJ5_inflateIfNeededFor_a7421 2 none 1 := ⟨zm3 (i := 31) rfl rfl, zm1 (i := 11) rfl rfl, by decide +kernel⟩
theorem zcJ5_putStringAt_47b60 : zC yJ5_putStringAt_47b60 cJ5_putStringAt_47b60 3 none 2 := ⟨zm3 (i := 27) rfl rfl, zm1 (i := 11) rfl rfl, by decide +kernel⟩
theorem zcJ6_getChars_ba4f3 : zC yJ6_getChars_ba4f3 cJ6_getChars_ba4f3 7 (some .int) 3 := ⟨zm3 (i := 70) rfl rfl, zm1 (i := 22) rfl rfl, by decide +kernel⟩
theorem zsJ6_getChars_ba4f3 : Cond.static yJ6_getChars_ba4f3 ∈ zG := zm3 (i := 69) rfl rfl
theorem zcJ6_stringSize_0f7a4 : zC yJ6_stringSize_0f7a4 cJ6_stringSize_0f7a4 4 (some .int) 1 := ⟨zm3 (i := 67) rfl rfl, zm1 (i := 22) rfl rfl, by decide +kernel⟩
theorem zsJ6_stringSize_0f7a4 : Cond.static yJ6_stringSize_0f7a4 ∈ zG := zm3 (i := 66) rfl rfl
theorem zcJ6_bitCount_0f7a4 : zC yJ6_bitCount_0f7a4 cJ6_bitCount_0f7a4 1 (some .int) 1 := ⟨zm4 (i := 162) rfl rfl, zm1 (i := 22) rfl rfl, by decide +kernel⟩
theorem zsJ6_bitCount_0f7a4 : Cond.static yJ6_bitCount_0f7a4 ∈ zG := zm4 (i := 161) rfl rfl
theorem zcJ9_max_7cf53 : zC yJ9_max_7cf53 cJ9_max_7cf53 2 (some .int) 2 := ⟨zm2 (i := 202) rfl rfl, zm1 (i := 17) rfl rfl, by decide +kernel⟩
theorem zsJ9_max_7cf53 : Cond.static yJ9_max_7cf53 ∈ zG := zm2 (i := 201) rfl rfl
theorem zcJ9_max_f86c9 : zC yJ9_max_f86c9 cJ9_max_f86c9 4 (some .long) 2 := ⟨zm5 (i := 112) rfl rfl, zm1 (i := 17) rfl rfl, by decide +kernel⟩
theorem zsJ9_max_f86c9 : Cond.static yJ9_max_f86c9 ∈ zG := zm5 (i := 111) rfl rfl
theorem zcJ9_min_7cf53 : zC yJ9_min_7cf53 cJ9_min_7cf53 2 (some .int) 2 := ⟨zm2 (i := 220) rfl rfl, zm1 (i := 17) rfl rfl, by decide +kernel⟩
theorem zsJ9_min_7cf53 : Cond.static yJ9_min_7cf53 ∈ zG := zm2 (i := 219) rfl rfl
theorem zcJ0_init_81219 : zC yJ0_init_81219 cJ0_init_81219 2 none 1 := ⟨zm3 (i := 150) rfl rfl, zm1 (i := 13) rfl rfl, by decide +kernel⟩
theorem ziiJ0_init_81219 : Cond.instanceMethod yJ0_init_81219 ∈ zG := zm3 (i := 149) rfl rfl
theorem zcJ0_length_8abf5 : zC yJ0_length_8abf5 cJ0_length_8abf5 1 (some .int) 0 := ⟨zm3 (i := 18) rfl rfl, zm1 (i := 13) rfl rfl, by decide +kernel⟩
theorem ziJ0_length_8abf5 : zI yJ0_length_8abf5 := ⟨zm3 (i := 16) rfl rfl, zm3 (i := 17) rfl rfl⟩
theorem zcJ0_charAt_5068e : zC yJ0_charAt_5068e cJ0_charAt_5068e 2 (some .char) 1 := ⟨zm3 (i := 209) rfl rfl, zm1 (i := 13) rfl rfl, by decide +kernel⟩
theorem ziJ0_charAt_5068e : zI yJ0_charAt_5068e := ⟨zm3 (i := 207) rfl rfl, zm3 (i := 208) rfl rfl⟩
theorem zcJ0_getBytes_840e7 : zC yJ0_getBytes_840e7 cJ0_getBytes_840e7 4 none 3 := ⟨zm3 (i := 55) rfl rfl, zm1 (i := 13) rfl rfl, by decide +kernel⟩
theorem ziJ0_getBytes_840e7 : zI yJ0_getBytes_840e7 := ⟨zm3 (i := 53) rfl rfl, zm3 (i := 54) rfl rfl⟩
theorem zcJ0_init_db425 : zC yJ0_init_db425 cJ0_init_db425 5 none 2 := ⟨zm3 (i := 153) rfl rfl, zm1 (i := 13) rfl rfl, by decide +kernel⟩
theorem ziiJ0_init_db425 : Cond.instanceMethod yJ0_init_db425 ∈ zG := zm3 (i := 152) rfl rfl
theorem zcJ0_coder_7d493 : zC yJ0_coder_7d493 cJ0_coder_7d493 1 (some .byte) 0 := ⟨zm3 (i := 22) rfl rfl, zm1 (i := 13) rfl rfl, by decide +kernel⟩
theorem ziJ0_coder_7d493 : zI yJ0_coder_7d493 := ⟨zm3 (i := 20) rfl rfl, zm3 (i := 21) rfl rfl⟩
theorem zcJ0_isLatin1_aae02 : zC yJ0_isLatin1_aae02 cJ0_isLatin1_aae02 1 (some .boolean) 0 := ⟨zm3 (i := 213) rfl rfl, zm1 (i := 13) rfl rfl, by decide +kernel⟩
theorem ziJ0_isLatin1_aae02 : zI yJ0_isLatin1_aae02 := ⟨zm3 (i := 211) rfl rfl, zm3 (i := 212) rfl rfl⟩
theorem zcJ0_checkIndex_df160 : zC yJ0_checkIndex_df160 cJ0_checkIndex_df160 2 none 2 := ⟨zm3 (i := 101) rfl rfl, zm1 (i := 13) rfl rfl, by decide +kernel⟩
theorem zsJ0_checkIndex_df160 : Cond.static yJ0_checkIndex_df160 ∈ zG := zm3 (i := 100) rfl rfl
theorem zcJ0_checkBoundsOffCount_cabcc : zC yJ0_checkBoundsOffCount_cabcc cJ0_checkBoundsOffCount_cabcc 3 (some .int) 3 := ⟨zm3 (i := 48) rfl rfl, zm1 (i := 13) rfl rfl, by decide +kernel⟩
theorem zsJ0_checkBoundsOffCount_cabcc : Cond.static yJ0_checkBoundsOffCount_cabcc ∈ zG := zm3 (i := 47) rfl rfl
theorem zcJ0_checkBoundsBeginEnd_23922 : zC yJ0_checkBoundsBeginEnd_23922 cJ0_checkBoundsBeginEnd_23922 3 none 3 := ⟨zm3 (i := 0) rfl rfl, zm1 (i := 13) rfl rfl, by decide +kernel⟩
theorem zsJ0_checkBoundsBeginEnd_23922 : Cond.static yJ0_checkBoundsBeginEnd_23922 ∈ zG := zm2 (i := 239) rfl rfl
theorem zcJ4_init_da8c8 : zC yJ4_init_da8c8 cJ4_init_da8c8 1 none 0 := ⟨zm2 (i := 87) rfl rfl, zm1 (i := 12) rfl rfl, by decide +kernel⟩
theorem ziiJ4_init_da8c8 : Cond.instanceMethod yJ4_init_da8c8 ∈ zG := zm2 (i := 86) rfl rfl
theorem zcJ4_append_15ec4 : zC yJ4_append_15ec4 cJ4_append_15ec4 2 (some (.object "java/lang/StringBuilder")) 1 := ⟨zm2 (i := 181) rfl rfl, zm1 (i := 12) rfl rfl, by decide +kernel⟩
theorem ziJ4_append_15ec4 : zI yJ4_append_15ec4 := ⟨zm2 (i := 179) rfl rfl, zm2 (i := 180) rfl rfl⟩
theorem zcJ4_append_cf468 : zC yJ4_append_cf468 cJ4_append_cf468 2 (some (.object "java/lang/StringBuilder")) 1 := ⟨zm3 (i := 86) rfl rfl, zm1 (i := 12) rfl rfl, by decide +kernel⟩
theorem ziJ4_append_cf468 : zI yJ4_append_cf468 := ⟨zm3 (i := 84) rfl rfl, zm3 (i := 85) rfl rfl⟩
theorem zcJ4_append_bf812 : zC yJ4_append_bf812 cJ4_append_bf812 2 (some (.object "java/lang/StringBuilder")) 1 := ⟨zm3 (i := 61) rfl rfl, zm1 (i := 12) rfl rfl, by decide +kernel⟩
theorem ziJ4_append_bf812 : zI yJ4_append_bf812 := ⟨zm3 (i := 59) rfl rfl, zm3 (i := 60) rfl rfl⟩
theorem zcJ4_toString_0e30d : zC yJ4_toString_0e30d cJ4_toString_0e30d 1 (some (.object "java/lang/String")) 0 := ⟨zm3 (i := 145) rfl rfl, zm1 (i := 12) rfl rfl, by decide +kernel⟩
theorem ziJ4_toString_0e30d : zI yJ4_toString_0e30d := ⟨zm3 (i := 143) rfl rfl, zm3 (i := 144) rfl rfl⟩
theorem zcJ4_length_8abf5 : zC yJ4_length_8abf5 cJ4_length_8abf5 1 (some .int) 0 := ⟨zm3 (i := 165) rfl rfl, zm1 (i := 12) rfl rfl, by decide +kernel⟩
theorem ziJ4_length_8abf5 : zI yJ4_length_8abf5 := ⟨zm3 (i := 164) rfl rfl, zm6 (i := 106) rfl rfl⟩
theorem zcJ1_charAt_3b067 : zC yJ1_charAt_3b067 cJ1_charAt_3b067 2 (some .char) 2 := ⟨zm3 (i := 216) rfl rfl, zm1 (i := 21) rfl rfl, by decide +kernel⟩
theorem zsJ1_charAt_3b067 : Cond.static yJ1_charAt_3b067 ∈ zG := zm3 (i := 215) rfl rfl
theorem zcJ1_canEncode_fc78d : zC yJ1_canEncode_fc78d cJ1_canEncode_fc78d 1 (some .boolean) 1 := ⟨zm3 (i := 92) rfl rfl, zm1 (i := 21) rfl rfl, by decide +kernel⟩
theorem zsJ1_canEncode_fc78d : Cond.static yJ1_canEncode_fc78d ∈ zG := zm3 (i := 91) rfl rfl
theorem zcJ1_inflate_0e8fd : zC yJ1_inflate_0e8fd cJ1_inflate_0e8fd 5 none 5 := ⟨zm3 (i := 39) rfl rfl, zm1 (i := 21) rfl rfl, by decide +kernel⟩
theorem zsJ1_inflate_0e8fd : Cond.static yJ1_inflate_0e8fd ∈ zG := zm3 (i := 38) rfl rfl
theorem zcJ2_newBytesFor_77867 : zC yJ2_newBytesFor_77867 cJ2_newBytesFor_77867 1 (some (.array .byte)) 1 := ⟨zm2 (i := 96) rfl rfl, zm1 (i := 14) rfl rfl, by decide +kernel⟩
theorem zsJ2_newBytesFor_77867 : Cond.static yJ2_newBytesFor_77867 ∈ zG := zm2 (i := 95) rfl rfl
theorem zcJ2_newBytesLength_0f7a4 : zC yJ2_newBytesLength_0f7a4 cJ2_newBytesLength_0f7a4 1 (some .int) 1 := ⟨zm2 (i := 99) rfl rfl, zm1 (i := 14) rfl rfl, by decide +kernel⟩
theorem zsJ2_newBytesLength_0f7a4 : Cond.static yJ2_newBytesLength_0f7a4 ∈ zG := zm2 (i := 98) rfl rfl
theorem zcJ2_putChar_b72d1 : zC yJ2_putChar_b72d1 cJ2_putChar_b72d1 3 none 3 := ⟨zm3 (i := 8) rfl rfl, zm1 (i := 14) rfl rfl, by decide +kernel⟩
theorem zsJ2_putChar_b72d1 : Cond.static yJ2_putChar_b72d1 ∈ zG := zm3 (i := 7) rfl rfl
theorem zcJ2_getChar_3b067 : zC yJ2_getChar_3b067 cJ2_getChar_3b067 2 (some .char) 2 := ⟨zm3 (i := 186) rfl rfl, zm1 (i := 14) rfl rfl, by decide +kernel⟩
theorem zsJ2_getChar_3b067 : Cond.static yJ2_getChar_3b067 ∈ zG := zm3 (i := 185) rfl rfl
theorem zcJ2_length_9d52b : zC yJ2_length_9d52b cJ2_length_9d52b 1 (some .int) 1 := ⟨zm2 (i := 237) rfl rfl, zm1 (i := 14) rfl rfl, by decide +kernel⟩
theorem zsJ2_length_9d52b : Cond.static yJ2_length_9d52b ∈ zG := zm2 (i := 236) rfl rfl
theorem zcJ2_coderFromArrayLen_85cad : zC yJ2_coderFromArrayLen_85cad cJ2_coderFromArrayLen_85cad 2 (some .byte) 2 := ⟨zm3 (i := 190) rfl rfl, zm1 (i := 14) rfl rfl, by decide +kernel⟩
theorem zsJ2_coderFromArrayLen_85cad : Cond.static yJ2_coderFromArrayLen_85cad ∈ zG := zm3 (i := 189) rfl rfl
theorem zcJ2_compress_39247 : zC yJ2_compress_39247 cJ2_compress_39247 6 (some (.array .byte)) 3 := ⟨zm3 (i := 180) rfl rfl, zm1 (i := 14) rfl rfl, by decide +kernel⟩
theorem zsJ2_compress_39247 : Cond.static yJ2_compress_39247 ∈ zG := zm3 (i := 179) rfl rfl
theorem zcJ2_compress_5af95 : zC yJ2_compress_5af95 cJ2_compress_5af95 7 (some .int) 5 := ⟨zm3 (i := 183) rfl rfl, zm1 (i := 14) rfl rfl, by decide +kernel⟩
theorem zsJ2_compress_5af95 : Cond.static yJ2_compress_5af95 ∈ zG := zm3 (i := 182) rfl rfl
theorem zcJ2_putCharSB_b72d1 : zC yJ2_putCharSB_b72d1 cJ2_putCharSB_b72d1 3 none 3 := ⟨zm3 (i := 95) rfl rfl, zm1 (i := 14) rfl rfl, by decide +kernel⟩
theorem zsJ2_putCharSB_b72d1 : Cond.static yJ2_putCharSB_b72d1 ∈ zG := zm3 (i := 94) rfl rfl
theorem zcJ2_getChars_46870 : zC yJ2_getChars_46870 cJ2_getChars_46870 5 (some .int) 4 := ⟨zm3 (i := 77) rfl rfl, zm1 (i := 14) rfl rfl, by decide +kernel⟩
theorem zsJ2_getChars_46870 : Cond.static yJ2_getChars_46870 ∈ zG := zm3 (i := 76) rfl rfl
theorem zcJ2_putCharsAt_cd4e5 : zC yJ2_putCharsAt_cd4e5 cJ2_putCharsAt_cd4e5 7 (some .int) 6 := ⟨zm2 (i := 231) rfl rfl, zm1 (i := 14) rfl rfl, by decide +kernel⟩
theorem zsJ2_putCharsAt_cd4e5 : Cond.static yJ2_putCharsAt_cd4e5 ∈ zG := zm2 (i := 230) rfl rfl
theorem zcJ2_charAt_3b067 : zC yJ2_charAt_3b067 cJ2_charAt_3b067 2 (some .char) 2 := ⟨zm3 (i := 220) rfl rfl, zm1 (i := 14) rfl rfl, by decide +kernel⟩
theorem zsJ2_charAt_3b067 : Cond.static yJ2_charAt_3b067 ∈ zG := zm3 (i := 219) rfl rfl
theorem zcJ2_inflate_0e8fd : zC yJ2_inflate_0e8fd cJ2_inflate_0e8fd 6 none 5 := ⟨zm3 (i := 42) rfl rfl, zm1 (i := 14) rfl rfl, by decide +kernel⟩
theorem zsJ2_inflate_0e8fd : Cond.static yJ2_inflate_0e8fd ∈ zG := zm3 (i := 41) rfl rfl
theorem zcJ2_getChars_ba4f3 : zC yJ2_getChars_ba4f3 cJ2_getChars_ba4f3 7 (some .int) 3 := ⟨zm3 (i := 80) rfl rfl, zm1 (i := 14) rfl rfl, by decide +kernel⟩
theorem zsJ2_getChars_ba4f3 : Cond.static yJ2_getChars_ba4f3 ∈ zG := zm3 (i := 79) rfl rfl
theorem zcJ2_checkIndex_2214a : zC yJ2_checkIndex_2214a cJ2_checkIndex_2214a 2 none 2 := ⟨zm3 (i := 98) rfl rfl, zm1 (i := 14) rfl rfl, by decide +kernel⟩
theorem zsJ2_checkIndex_2214a : Cond.static yJ2_checkIndex_2214a ∈ zG := zm3 (i := 97) rfl rfl
theorem zcJ2_checkBoundsBeginEnd_d044e : zC yJ2_checkBoundsBeginEnd_d044e cJ2_checkBoundsBeginEnd_d044e 3 none 3 := ⟨zm2 (i := 234) rfl rfl, zm1 (i := 14) rfl rfl, by decide +kernel⟩
theorem zsJ2_checkBoundsBeginEnd_d044e : Cond.static yJ2_checkBoundsBeginEnd_d044e ∈ zG := zm2 (i := 233) rfl rfl
theorem zcJ2_checkBoundsOffCount_d044e : zC yJ2_checkBoundsOffCount_d044e cJ2_checkBoundsOffCount_d044e 3 none 3 := ⟨zm3 (i := 45) rfl rfl, zm1 (i := 14) rfl rfl, by decide +kernel⟩
theorem zsJ2_checkBoundsOffCount_d044e : Cond.static yJ2_checkBoundsOffCount_d044e ∈ zG := zm3 (i := 44) rfl rfl
theorem zcJ7_copyOf_9075b : zC yJ7_copyOf_9075b cJ7_copyOf_9075b 3 (some (.array .byte)) 2 := ⟨zm2 (i := 210) rfl rfl, zm1 (i := 18) rfl rfl, by decide +kernel⟩
theorem zsJ7_copyOf_9075b : Cond.static yJ7_copyOf_9075b ∈ zG := zm2 (i := 209) rfl rfl
theorem zcJ7_checkLength_df160 : zC yJ7_checkLength_df160 cJ7_checkLength_df160 2 none 2 := ⟨zm3 (i := 177) rfl rfl, zm1 (i := 18) rfl rfl, by decide +kernel⟩
theorem zsJ7_checkLength_df160 : Cond.static yJ7_checkLength_df160 ∈ zG := zm3 (i := 176) rfl rfl
theorem zcJ7_copyOfRange_39247 : zC yJ7_copyOfRange_39247 cJ7_copyOfRange_39247 3 (some (.array .byte)) 3 := ⟨zm3 (i := 171) rfl rfl, zm1 (i := 18) rfl rfl, by decide +kernel⟩
theorem zsJ7_copyOfRange_39247 : Cond.static yJ7_copyOfRange_39247 ∈ zG := zm3 (i := 170) rfl rfl
theorem zcJ7_copyOfRangeByte_39247 : zC yJ7_copyOfRangeByte_39247 cJ7_copyOfRangeByte_39247 5 (some (.array .byte)) 3 := ⟨zm3 (i := 174) rfl rfl, zm1 (i := 18) rfl rfl, by decide +kernel⟩
theorem zsJ7_copyOfRangeByte_39247 : Cond.static yJ7_copyOfRangeByte_39247 ∈ zG := zm3 (i := 173) rfl rfl
theorem zcJ8_newLength_cabcc : zC yJ8_newLength_cabcc cJ8_newLength_cabcc 4 (some .int) 3 := ⟨zm2 (i := 199) rfl rfl, zm1 (i := 16) rfl rfl, by decide +kernel⟩
theorem zsJ8_newLength_cabcc : Cond.static yJ8_newLength_cabcc ∈ zG := zm2 (i := 198) rfl rfl
theorem zcJ8_hugeLength_7cf53 : zC yJ8_hugeLength_7cf53 cJ8_hugeLength_7cf53 3 (some .int) 2 := ⟨zm2 (i := 206) rfl rfl, zm1 (i := 16) rfl rfl, by decide +kernel⟩
theorem zsJ8_hugeLength_7cf53 : Cond.static yJ8_hugeLength_7cf53 ∈ zG := zm2 (i := 205) rfl rfl
theorem zcJ3_checkIndex_8e157 : zC yJ3_checkIndex_8e157 cJ3_checkIndex_8e157 3 (some .int) 3 := ⟨zm3 (i := 104) rfl rfl, zm1 (i := 20) rfl rfl, by decide +kernel⟩
theorem zsJ3_checkIndex_8e157 : Cond.static yJ3_checkIndex_8e157 ∈ zG := zm3 (i := 103) rfl rfl
theorem zcJ3_checkFromToIndex_8c36e : zC yJ3_checkFromToIndex_8c36e cJ3_checkFromToIndex_8c36e 4 (some .int) 4 := ⟨zm3 (i := 5) rfl rfl, zm1 (i := 20) rfl rfl, by decide +kernel⟩
theorem zsJ3_checkFromToIndex_8c36e : Cond.static yJ3_checkFromToIndex_8c36e ∈ zG := zm3 (i := 4) rfl rfl
theorem zcJ3_checkFromIndexSize_8c36e : zC yJ3_checkFromIndexSize_8c36e cJ3_checkFromIndexSize_8c36e 4 (some .int) 4 := ⟨zm3 (i := 51) rfl rfl, zm1 (i := 20) rfl rfl, by decide +kernel⟩
theorem zsJ3_checkFromIndexSize_8c36e : Cond.static yJ3_checkFromIndexSize_8c36e ∈ zG := zm3 (i := 50) rfl rfl
theorem zcL_feeds : zC yL_feeds cL_feeds 6 (some .boolean) 2 := ⟨zm3 (i := 204) rfl rfl, zm1 (i := 0) rfl rfl, by decide +kernel⟩
theorem zsL_feeds : Cond.static yL_feeds ∈ zG := zm3 (i := 203) rfl rfl
theorem zcL_draw : zC yL_draw cL_draw 2 (some .int) 2 := ⟨zm2 (i := 174) rfl rfl, zm1 (i := 0) rfl rfl, by decide +kernel⟩
theorem zsL_draw : Cond.static yL_draw ∈ zG := zm2 (i := 173) rfl rfl
theorem zcL_web : zC yL_web cL_web 5 (some (.object "NewsExchangeLaw$Web")) 2 := ⟨zm2 (i := 116) rfl rfl, zm1 (i := 0) rfl rfl, by decide +kernel⟩
theorem zsL_web : Cond.static yL_web ∈ zG := zm2 (i := 115) rfl rfl
theorem zcL_plays : zC yL_plays cL_plays 5 (some .boolean) 2 := ⟨zm2 (i := 82) rfl rfl, zm1 (i := 0) rfl rfl, by decide +kernel⟩
theorem zsL_plays : Cond.static yL_plays ∈ zG := zm2 (i := 81) rfl rfl
theorem zcL_acts : zC yL_acts cL_acts 8 (some .boolean) 3 := ⟨zm4 (i := 169) rfl rfl, zm1 (i := 0) rfl rfl, by decide +kernel⟩
theorem zsL_acts : Cond.static yL_acts ∈ zG := zm4 (i := 168) rfl rfl
theorem zcL_agrees : zC yL_agrees cL_agrees 8 (some .boolean) 3 := ⟨zm5 (i := 189) rfl rfl, zm1 (i := 0) rfl rfl, by decide +kernel⟩
theorem zsL_agrees : Cond.static yL_agrees ∈ zG := zm5 (i := 188) rfl rfl
theorem zmX10_32 : zMl RX10 32 yX2_init := Or.inl (zm1 (i := 198) rfl rfl)
theorem zmX10_61 : zMl RX10 61 yX6_init := Or.inl (zm2 (i := 16) rfl rfl)
theorem zmX10_74 : zMl RX10 74 yX7_begin := Or.inl (zm2 (i := 41) rfl rfl)
theorem zmX10_81 : zMl RX10 81 yX9_putFourBytes := Or.inl (zm3 (i := 225) rfl rfl)
theorem zmX10_91 : zMl RX10 91 yX9_readExchange := Or.inl (zm4 (i := 61) rfl rfl)
theorem zmX10_95 : zMl RX10 95 yX9_handOver := Or.inl (zm4 (i := 144) rfl rfl)
theorem zmX10_99 : zMl RX10 99 yX10_startAnew := Or.inl (zm4 (i := 148) rfl rfl)
theorem zmX10_102 : zMl RX10 102 yX2_forget := Or.inl (zm4 (i := 152) rfl rfl)
theorem zmX10_120 : zMl RX10 120 yJ6_bitCount_0f7a4 := Or.inl (zm4 (i := 160) rfl rfl)
theorem zmX10_130 : zMl RX10 130 yX10_requireLine := Or.inl (zm4 (i := 182) rfl rfl)
theorem zmX10_149 : zMl RX10 149 yX8_countOf := Or.inl (zm5 (i := 238) rfl rfl)
theorem zmX10_158 : zMl RX10 158 yX10_usableLines := Or.inl (zm4 (i := 230) rfl rfl)
theorem zmX10_161 : zMl RX10 161 yX10_isIn := Or.inl (zm4 (i := 202) rfl rfl)
theorem zmX10_168 : zMl RX10 168 yX10_requirePerson := Or.inl (zm5 (i := 129) rfl rfl)
theorem zmX10_180 : zMl RX10 180 yX3_knowersOf := Or.inl (zm5 (i := 224) rfl rfl)
theorem zmX10_183 : zMl RX10 183 yX3_missingPieces := Or.inl (zm5 (i := 199) rfl rfl)
theorem zmX10_187 : zMl RX10 187 yX1_otherPerson := Or.inl (zm5 (i := 216) rfl rfl)
theorem zmX10_191 : zMl RX10 191 yX1_gainOf := Or.inl (zm5 (i := 24) rfl rfl)
theorem zmX10_197 : zMl RX10 197 yX7_spentUpTo := Or.inl (zm6 (i := 95) rfl rfl)
theorem zmX10_202 : zMl RX10 202 yX10_bestOfNextRound := Or.inl (zm5 (i := 88) rfl rfl)
theorem zmX10_205 : zMl RX10 205 yX1_costOf := Or.inl (zm5 (i := 155) rfl rfl)
theorem zmX10_208 : zMl RX10 208 yX0_find := Or.inl (zm5 (i := 92) rfl rfl)
theorem zmX10_214 : zMl RX10 214 yX4_make := Or.inl (zm6 (i := 20) rfl rfl)
theorem zmX10_236 : zMl RX10 236 yX1_spread := Or.inl (zm6 (i := 41) rfl rfl)
theorem zmX10_239 : zMl RX10 239 yX10_uncutLines := Or.inl (zm6 (i := 53) rfl rfl)
theorem zmX10_242 : zMl RX10 242 yX1_fillLeastCosts := Or.inl (zm6 (i := 58) rfl rfl)
theorem zmX10_246 : zMl RX10 246 yX1_neededLines := Or.inl (zm6 (i := 76) rfl rfl)
theorem zmX10_251 : zMl RX10 251 yX10_canArrange := Or.inl (zm4 (i := 221) rfl rfl)
theorem zmX10_257 : zMl RX10 257 yX2_remember := Or.inl (zm5 (i := 7) rfl rfl)
theorem zmX10_261 : zMl RX10 261 yX10_gain := Or.inl (zm5 (i := 20) rfl rfl)
theorem zmX10_264 : zMl RX10 264 yX1_personsOf := Or.inl (zm4 (i := 225) rfl rfl)
theorem zmX10_271 : zMl RX10 271 yX1_makeCalls := Or.inl (zm5 (i := 151) rfl rfl)
theorem zmX10_275 : zMl RX10 275 yX7_endRound := Or.inl (zm5 (i := 159) rfl rfl)
theorem zmX10_305 : zMl RX10 305 yX1_allLines := Or.inl (zm6 (i := 57) rfl rfl)
theorem zmX10_308 : zMl RX10 308 yX1_openLines := Or.inl (zm4 (i := 234) rfl rfl)
theorem zmX0_18 : zMl RX0 18 yX0_rankPairs := Or.inl (zm5 (i := 96) rfl rfl)
theorem zmX0_28 : zMl RX0 28 yX0_admit := Or.inl (zm5 (i := 113) rfl rfl)
theorem zmX0_41 : zMl RX0 41 yX1_gainOfLine := Or.inl (zm5 (i := 101) rfl rfl)
theorem zmX0_52 : zMl RX0 52 yX0_pairOf := Or.inl (zm5 (i := 102) rfl rfl)
theorem zmX0_59 : zMl RX0 59 yX0_worth := Or.inl (zm5 (i := 107) rfl rfl)
theorem zmX0_63 : zMl RX0 63 yJ9_max_f86c9 := Or.inl (zm5 (i := 110) rfl rfl)
theorem zmX0_69 : zMl RX0 69 yJ9_max_7cf53 := Or.inl (zm5 (i := 105) rfl rfl)
theorem zmX0_71 : zMl RX0 71 yJ9_min_7cf53 := Or.inl (zm5 (i := 106) rfl rfl)
theorem zmX0_74 : zMl RX0 74 yX0_admitWith := Or.inl (zm5 (i := 117) rfl rfl)
theorem zmX1_42 : zMl RX1 42 yX8_clear := Or.inl (zm4 (i := 70) rfl rfl)
theorem zmX1_45 : zMl RX1 45 yX1_isFull := Or.inl (zm4 (i := 128) rfl rfl)
theorem zmX1_49 : zMl RX1 49 yX8_keptOut := Or.inl (zm4 (i := 238) rfl rfl)
theorem zmX1_53 : zMl RX1 53 yX1_allLines := Or.inl (zm5 (i := 2) rfl rfl)
theorem zmX1_66 : zMl RX1 66 yJ6_bitCount_0f7a4 := Or.inl (zm5 (i := 32) rfl rfl)
theorem zmX1_71 : zMl RX1 71 yX1_gainOfLine := Or.inl (zm5 (i := 28) rfl rfl)
theorem zmX1_75 : zMl RX1 75 yX1_spread := Or.inl (zm6 (i := 84) rfl rfl)
theorem zmX1_79 : zMl RX1 79 yX1_reached := Or.inl (zm6 (i := 80) rfl rfl)
theorem zmX1_83 : zMl RX1 83 yX1_lowerCosts := Or.inl (zm6 (i := 63) rfl rfl)
theorem zmX1_87 : zMl RX1 87 yX1_added := Or.inl (zm6 (i := 67) rfl rfl)
theorem zmX1_90 : zMl RX1 90 yJ9_min_7cf53 := Or.inl (zm6 (i := 70) rfl rfl)
theorem zmX2_25 : zMl RX2 25 yX7_copyFrom := Or.inl (zm5 (i := 11) rfl rfl)
theorem zmX2_29 : zMl RX2 29 yJ9_min_7cf53 := Or.inl (zm5 (i := 19) rfl rfl)
theorem zmX3_23 : zMl RX3 23 yJ6_bitCount_0f7a4 := Or.inl (zm5 (i := 203) rfl rfl)
theorem zmX4_31 : zMl RX4 31 yX3_copyFrom := Or.inl (zm6 (i := 24) rfl rfl)
theorem zmX4_35 : zMl RX4 35 yX3_missingPieces := Or.inl (zm6 (i := 25) rfl rfl)
theorem zmX4_40 : zMl RX4 40 yX1_openLines := Or.inl (zm6 (i := 26) rfl rfl)
theorem zmX4_49 : zMl RX4 49 yX0_find := Or.inl (zm6 (i := 27) rfl rfl)
theorem zmX4_55 : zMl RX4 55 yX1_makeCalls := Or.inl (zm6 (i := 28) rfl rfl)
theorem zmX4_59 : zMl RX4 59 yJ6_bitCount_0f7a4 := Or.inl (zm6 (i := 29) rfl rfl)
theorem zmX4_64 : zMl RX4 64 yX1_costOf := Or.inl (zm6 (i := 30) rfl rfl)
theorem zmX7_35 : zMl RX7 35 yX3_begin := Or.inl (zm2 (i := 45) rfl rfl)
theorem zmX7_39 : zMl RX7 39 yX3_copyFrom := Or.inl (zm5 (i := 15) rfl rfl)
theorem zmX7_43 : zMl RX7 43 yJ6_bitCount_0f7a4 := Or.inl (zm5 (i := 163) rfl rfl)
theorem zmX7_51 : zMl RX7 51 yX7_spentUpTo := Or.inl (zm5 (i := 166) rfl rfl)
theorem zmX7_54 : zMl RX7 54 yX5_init := Or.inl (zm5 (i := 170) rfl rfl)
theorem zmX8_25 : zMl RX8 25 yX8_isFull := Or.inl (zm4 (i := 142) rfl rfl)
theorem zmX9_47 : zMl RX9 47 yJ9_min_7cf53 := Or.inl (zm4 (i := 65) rfl rfl)
theorem zmX9_53 : zMl RX9 53 yX1_clear := Or.inl (zm4 (i := 66) rfl rfl)
theorem zmX9_56 : zMl RX9 56 yX9_nextToken := Or.inl (zm4 (i := 74) rfl rfl)
theorem zmX9_59 : zMl RX9 59 yX9_readStatement := Or.inl (zm4 (i := 86) rfl rfl)
theorem zmX9_65 : zMl RX9 65 yX9_isWord := Or.inl (zm4 (i := 91) rfl rfl)
theorem zmX9_69 : zMl RX9 69 yX9_readPeople := Or.inl (zm4 (i := 97) rfl rfl)
theorem zmX9_74 : zMl RX9 74 yX9_readLine := Or.inl (zm4 (i := 114) rfl rfl)
theorem zmX9_87 : zMl RX9 87 yX9_readSpan := Or.inl (zm4 (i := 130) rfl rfl)
theorem zmX9_98 : zMl RX9 98 yX9_fail := Or.inl (zm4 (i := 101) rfl rfl)
theorem zmX9_102 : zMl RX9 102 yX9_readNumber := Or.inl (zm4 (i := 105) rfl rfl)
theorem zmX9_106 : zMl RX9 106 yX9_readSemicolon := Or.inl (zm4 (i := 109) rfl rfl)
theorem zmX9_109 : zMl RX9 109 yX1_isFull := Or.inl (zm4 (i := 118) rfl rfl)
theorem zmX9_116 : zMl RX9 116 yX1_addLine := Or.inl (zm4 (i := 124) rfl rfl)
theorem zmX9_120 : zMl RX9 120 yX8_isFull := Or.inl (zm4 (i := 134) rfl rfl)
theorem zmX9_123 : zMl RX9 123 yX8_add := Or.inl (zm4 (i := 138) rfl rfl)
theorem zmX9_127 : zMl RX9 127 yJ0_length_8abf5 := Or.inl (zm4 (i := 95) rfl rfl)
theorem zmX9_132 : zMl RX9 132 yJ0_charAt_5068e := Or.inl (zm4 (i := 96) rfl rfl)
theorem zmX9_136 : zMl RX9 136 yX9_skipSeparators := Or.inl (zm4 (i := 78) rfl rfl)
theorem zmX9_139 : zMl RX9 139 yX9_takeRun := Or.inl (zm4 (i := 82) rfl rfl)
theorem zmL_7 : zMl RL 7 yJ0_length_8abf5 := Or.inl (zm3 (i := 205) rfl rfl)
theorem zmL_13 : zMl RL 13 yJ0_charAt_5068e := Or.inl (zm3 (i := 206) rfl rfl)
theorem zmL_17 : zMl RL 17 yX10_append := Or.inl (zm3 (i := 221) rfl rfl)
theorem zmL_25 : zMl RL 25 yX10_init := Or.inl (zm1 (i := 33) rfl rfl)
theorem zmL_26 : zMl RL 26 yL_plays := Or.inl (zm2 (i := 80) rfl rfl)
theorem zmL_35 : zMl RL 35 yL_draw := Or.inl (zm2 (i := 172) rfl rfl)
theorem zmL_45 : zMl RL 45 yJ4_append_15ec4 := Or.inl (zm2 (i := 178) rfl rfl)
theorem zmL_50 : zMl RL 50 yJ4_append_bf812 := Or.inl (zm3 (i := 58) rfl rfl)
theorem zmL_53 : zMl RL 53 yJ4_append_cf468 := Or.inl (zm3 (i := 83) rfl rfl)
theorem zmL_101 : zMl RL 101 yJ4_init_da8c8 := Or.inl (zm2 (i := 85) rfl rfl)
theorem zmL_102 : zMl RL 102 yL_web := Or.inl (zm2 (i := 114) rfl rfl)
theorem zmL_106 : zMl RL 106 yJ4_toString_0e30d := Or.inl (zm3 (i := 142) rfl rfl)
theorem zmL_110 : zMl RL 110 yL_feeds := Or.inl (zm3 (i := 202) rfl rfl)
theorem zmL_114 : zMl RL 114 yJ4_length_8abf5 := Or.inl (zm3 (i := 229) rfl rfl)
theorem zmL_115 : zMl RL 115 yX10_parse := Or.inl (zm3 (i := 230) rfl rfl)
theorem zmL_119 : zMl RL 119 yX10_size := Or.inl (zm4 (i := 156) rfl rfl)
theorem zmL_122 : zMl RL 122 yL_acts := Or.inl (zm4 (i := 167) rfl rfl)
theorem zmL_126 : zMl RL 126 yL_agrees := Or.inl (zm5 (i := 187) rfl rfl)
theorem zmL_135 : zMl RL 135 yX12_usable := Or.inl (zm4 (i := 170) rfl rfl)
theorem zmL_139 : zMl RL 139 yL_arranges := Or.inl (zm4 (i := 174) rfl rfl)
theorem zmL_143 : zMl RL 143 yX12_arranged := Or.inl (zm5 (i := 33) rfl rfl)
theorem zmL_145 : zMl RL 145 yX12_gainOf := Or.inl (zm5 (i := 37) rfl rfl)
theorem zmL_149 : zMl RL 149 yL_takesBack := Or.inl (zm5 (i := 46) rfl rfl)
theorem zmL_155 : zMl RL 155 yL_cuts := Or.inl (zm5 (i := 54) rfl rfl)
theorem zmL_158 : zMl RL 158 yL_mends := Or.inl (zm5 (i := 62) rfl rfl)
theorem zmL_161 : zMl RL 161 yX12_best := Or.inl (zm5 (i := 70) rfl rfl)
theorem zmL_164 : zMl RL 164 yX10_arrangeBest := Or.inl (zm5 (i := 84) rfl rfl)
theorem zmL_170 : zMl RL 170 yL_tells := Or.inl (zm5 (i := 122) rfl rfl)
theorem zmL_174 : zMl RL 174 yJ6_bitCount_0f7a4 := Or.inl (zm5 (i := 135) rfl rfl)
theorem zmL_179 : zMl RL 179 yX12_after := Or.inl (zm5 (i := 136) rfl rfl)
theorem zmL_189 : zMl RL 189 yX12_cost := Or.inl (zm5 (i := 145) rfl rfl)
theorem zmL_191 : zMl RL 191 yX10_ring := Or.inl (zm5 (i := 146) rfl rfl)
theorem zmL_194 : zMl RL 194 yX10_arrange := Or.inl (zm4 (i := 178) rfl rfl)
theorem zmL_199 : zMl RL 199 yX10_takeBack := Or.inl (zm5 (i := 49) rfl rfl)
theorem zmL_202 : zMl RL 202 yX10_cut := Or.inl (zm5 (i := 57) rfl rfl)
theorem zmL_205 : zMl RL 205 yX10_mend := Or.inl (zm5 (i := 65) rfl rfl)
theorem zmL_208 : zMl RL 208 yX10_tell := Or.inl (zm5 (i := 125) rfl rfl)
theorem zmL_212 : zMl RL 212 yX10_arranged := Or.inl (zm5 (i := 190) rfl rfl)
theorem zmL_213 : zMl RL 213 yX10_gain := Or.inl (zm5 (i := 194) rfl rfl)
theorem zmL_216 : zMl RL 216 yX10_missing := Or.inl (zm5 (i := 195) rfl rfl)
theorem zmL_219 : zMl RL 219 yX12_missing := Or.inl (zm5 (i := 204) rfl rfl)
theorem zmL_222 : zMl RL 222 yX10_known := Or.inl (zm5 (i := 208) rfl rfl)
theorem zmL_224 : zMl RL 224 yX10_partner := Or.inl (zm5 (i := 212) rfl rfl)
theorem zmL_227 : zMl RL 227 yX10_knowers := Or.inl (zm5 (i := 220) rfl rfl)
theorem zmL_230 : zMl RL 230 yX10_isUsable := Or.inl (zm5 (i := 229) rfl rfl)
theorem zmL_233 : zMl RL 233 yX10_line := Or.inl (zm5 (i := 234) rfl rfl)
theorem zmL_235 : zMl RL 235 yX10_best := Or.inl (zm6 (i := 3) rfl rfl)
theorem zmL_240 : zMl RL 240 yX12_plan := Or.inl (zm6 (i := 8) rfl rfl)
theorem zmL_244 : zMl RL 244 yX10_plan := Or.inl (zm6 (i := 15) rfl rfl)
theorem zmL_246 : zMl RL 246 yX12_prices := Or.inl (zm6 (i := 31) rfl rfl)
theorem zmL_250 : zMl RL 250 yX10_soonest := Or.inl (zm6 (i := 37) rfl rfl)
theorem zmL_253 : zMl RL 253 yX12_soonest := Or.inl (zm6 (i := 45) rfl rfl)
theorem zmL_254 : zMl RL 254 yX10_cheapest := Or.inl (zm6 (i := 49) rfl rfl)
theorem zmL_258 : zMl RL 258 yX10_vital := Or.inl (zm6 (i := 72) rfl rfl)
theorem zmL_261 : zMl RL 261 yX12_vital := Or.inl (zm6 (i := 85) rfl rfl)
theorem zmL_262 : zMl RL 262 yX10_spent := Or.inl (zm6 (i := 90) rfl rfl)
theorem zmL_264 : zMl RL 264 yJ9_min_7cf53 := Or.inl (zm6 (i := 96) rfl rfl)
theorem zmX12_37 : zMl RX12 37 yJ6_bitCount_0f7a4 := Or.inl (zm5 (i := 45) rfl rfl)
theorem zmX12_49 : zMl RX12 49 yX12_gain := Or.inl (zm5 (i := 41) rfl rfl)
theorem zmX12_62 : zMl RX12 62 yX12_tries := Or.inl (zm5 (i := 74) rfl rfl)
theorem zmX12_69 : zMl RX12 69 yX12_gainOf := Or.inl (zm5 (i := 78) rfl rfl)
theorem zmX12_72 : zMl RX12 72 yX12_cost := Or.inl (zm5 (i := 79) rfl rfl)
theorem zmX12_77 : zMl RX12 77 yX12_usable := Or.inl (zm5 (i := 83) rfl rfl)
theorem zmX12_92 : zMl RX12 92 yX12_missing := Or.inl (zm6 (i := 12) rfl rfl)
theorem zmX12_99 : zMl RX12 99 yX12_best := Or.inl (zm6 (i := 13) rfl rfl)
theorem zmX12_102 : zMl RX12 102 yX12_after := Or.inl (zm6 (i := 14) rfl rfl)
theorem zmX12_107 : zMl RX12 107 yJ9_min_7cf53 := Or.inl (zm6 (i := 36) rfl rfl)
theorem zmX12_113 : zMl RX12 113 yX12_prices := Or.inl (zm6 (i := 89) rfl rfl)
theorem zmJ5_26 : zMl RJ5 26 yJ2_newBytesFor_77867 := Or.inl (zm2 (i := 94) rfl rfl)
theorem zmJ5_32 : zMl RJ5 32 yJ0_length_8abf5 := Or.inl (zm3 (i := 15) rfl rfl)
theorem zmJ5_40 : zMl RJ5 40 yJ0_coder_7d493 := Or.inl (zm3 (i := 32) rfl rfl)
theorem zmJ5_83 : zMl RJ5 83 yJ5_isLatin1_aae02 := Or.inl (zm2 (i := 224) rfl rfl)
theorem zmJ5_100 : zMl RJ5 100 yJ5_ensureCapacityInternal_d00df := Or.inl (zm2 (i := 189) rfl rfl)
theorem zmJ5_104 : zMl RJ5 104 yJ5_newCapacity_0f7a4 := Or.inl (zm2 (i := 193) rfl rfl)
theorem zmJ5_108 : zMl RJ5 108 yJ7_copyOf_9075b := Or.inl (zm2 (i := 208) rfl rfl)
theorem zmJ5_114 : zMl RJ5 114 yJ8_newLength_cabcc := Or.inl (zm2 (i := 197) rfl rfl)
theorem zmJ5_125 : zMl RJ5 125 yJ1_inflate_0e8fd := Or.inl (zm3 (i := 37) rfl rfl)
theorem zmJ5_191 : zMl RJ5 191 yJ1_canEncode_fc78d := Or.inl (zm3 (i := 90) rfl rfl)
theorem zmJ5_195 : zMl RJ5 195 yJ5_inflate_da8c8 := Or.inl (zm3 (i := 33) rfl rfl)
theorem zmJ5_197 : zMl RJ5 197 yJ2_putCharSB_b72d1 := Or.inl (zm3 (i := 93) rfl rfl)
theorem zmJ5_204 : zMl RJ5 204 yJ5_appendNull_278bc := Or.inl (zm2 (i := 185) rfl rfl)
theorem zmJ5_208 : zMl RJ5 208 yJ5_putStringAt_47b60 := Or.inl (zm3 (i := 24) rfl rfl)
theorem zmJ5_226 : zMl RJ5 226 yJ2_putCharsAt_cd4e5 := Or.inl (zm2 (i := 229) rfl rfl)
theorem zmJ5_245 : zMl RJ5 245 yJ6_stringSize_0f7a4 := Or.inl (zm3 (i := 65) rfl rfl)
theorem zmJ5_248 : zMl RJ5 248 yJ6_getChars_ba4f3 := Or.inl (zm3 (i := 68) rfl rfl)
theorem zmJ5_251 : zMl RJ5 251 yJ2_getChars_46870 := Or.inl (zm3 (i := 75) rfl rfl)
theorem zmJ5_397 : zMl RJ5 397 yJ5_inflateIfNeededFor_a7421 := Or.inl (zm3 (i := 28) rfl rfl)
theorem zmJ5_399 : zMl RJ5 399 yJ0_getBytes_840e7 := Or.inl (zm3 (i := 52) rfl rfl)
theorem zmJ0_47 : zMl RJ0 47 yJ2_coderFromArrayLen_85cad := Or.inl (zm3 (i := 188) rfl rfl)
theorem zmJ0_54 : zMl RJ0 54 yJ7_copyOfRange_39247 := Or.inl (zm3 (i := 169) rfl rfl)
theorem zmJ0_106 : zMl RJ0 106 yJ1_inflate_0e8fd := Or.inl (zm3 (i := 57) rfl rfl)
theorem zmJ0_335 : zMl RJ0 335 yJ0_coder_7d493 := Or.inl (zm3 (i := 19) rfl rfl)
theorem zmJ0_489 : zMl RJ0 489 yJ0_init_db425 := Or.inl (zm3 (i := 151) rfl rfl)
theorem zmJ0_492 : zMl RJ0 492 yJ0_isLatin1_aae02 := Or.inl (zm3 (i := 210) rfl rfl)
theorem zmJ0_495 : zMl RJ0 495 yJ1_charAt_3b067 := Or.inl (zm3 (i := 214) rfl rfl)
theorem zmJ0_498 : zMl RJ0 498 yJ2_charAt_3b067 := Or.inl (zm3 (i := 218) rfl rfl)
theorem zmJ0_549 : zMl RJ0 549 yJ5_length_8abf5 := Or.inl (zm3 (i := 160) rfl rfl)
theorem zmJ0_552 : zMl RJ0 552 yJ5_getValue_6d5f1 := Or.inl (zm3 (i := 155) rfl rfl)
theorem zmJ0_1047 : zMl RJ0 1047 yJ5_isLatin1_aae02 := Or.inl (zm3 (i := 168) rfl rfl)
theorem zmJ0_1051 : zMl RJ0 1051 yJ2_compress_39247 := Or.inl (zm3 (i := 178) rfl rfl)
theorem zmJ0_1059 : zMl RJ0 1059 yJ3_checkIndex_8e157 := Or.inl (zm3 (i := 102) rfl rfl)
theorem zmJ0_1062 : zMl RJ0 1062 yJ3_checkFromToIndex_8c36e := Or.inl (zm3 (i := 3) rfl rfl)
theorem zmJ0_1065 : zMl RJ0 1065 yJ3_checkFromIndexSize_8c36e := Or.inl (zm3 (i := 49) rfl rfl)
theorem zmJ4_1 : zMl RJ4 1 yJ5_init_d00df := Or.inl (zm2 (i := 88) rfl rfl)
theorem zmJ4_29 : zMl RJ4 29 yJ5_append_cf1ce := Or.inl (zm2 (i := 182) rfl rfl)
theorem zmJ4_50 : zMl RJ4 50 yJ5_append_3fe6f := Or.inl (zm3 (i := 87) rfl rfl)
theorem zmJ4_53 : zMl RJ4 53 yJ5_append_c97b9 := Or.inl (zm3 (i := 62) rfl rfl)
theorem zmJ4_137 : zMl RJ4 137 yJ0_init_81219 := Or.inl (zm3 (i := 148) rfl rfl)
theorem zmJ4_343 : zMl RJ4 343 yJ5_length_8abf5 := Or.inl (zm3 (i := 166) rfl rfl)
theorem zmJ1_9 : zMl RJ1 9 yJ0_checkIndex_df160 := Or.inl (zm3 (i := 217) rfl rfl)
theorem zmJ1_240 : zMl RJ1 240 yJ2_inflate_0e8fd := Or.inl (zm3 (i := 40) rfl rfl)
theorem zmJ2_11 : zMl RJ2 11 yJ2_newBytesLength_0f7a4 := Or.inl (zm2 (i := 97) rfl rfl)
theorem zmJ2_48 : zMl RJ2 48 yJ2_length_9d52b := Or.inl (zm2 (i := 235) rfl rfl)
theorem zmJ2_67 : zMl RJ2 67 yJ2_checkIndex_2214a := Or.inl (zm3 (i := 96) rfl rfl)
theorem zmJ2_71 : zMl RJ2 71 yJ2_getChar_3b067 := Or.inl (zm3 (i := 184) rfl rfl)
theorem zmJ2_96 : zMl RJ2 96 yJ2_checkBoundsBeginEnd_d044e := Or.inl (zm2 (i := 232) rfl rfl)
theorem zmJ2_111 : zMl RJ2 111 yJ2_putChar_b72d1 := Or.inl (zm3 (i := 6) rfl rfl)
theorem zmJ2_123 : zMl RJ2 123 yJ2_compress_5af95 := Or.inl (zm3 (i := 181) rfl rfl)
theorem zmJ2_126 : zMl RJ2 126 yJ7_copyOfRange_39247 := Or.inl (zm3 (i := 187) rfl rfl)
theorem zmJ2_173 : zMl RJ2 173 yJ2_checkBoundsOffCount_d044e := Or.inl (zm3 (i := 43) rfl rfl)
theorem zmJ2_241 : zMl RJ2 241 yJ0_checkBoundsBeginEnd_23922 := Or.inl (zm2 (i := 238) rfl rfl)
theorem zmJ2_393 : zMl RJ2 393 yJ2_getChars_ba4f3 := Or.inl (zm3 (i := 78) rfl rfl)
theorem zmJ2_414 : zMl RJ2 414 yJ0_checkIndex_df160 := Or.inl (zm3 (i := 99) rfl rfl)
theorem zmJ2_419 : zMl RJ2 419 yJ0_checkBoundsOffCount_cabcc := Or.inl (zm3 (i := 46) rfl rfl)
theorem zmJ7_304 : zMl RJ7 304 yJ9_min_7cf53 := Or.inl (zm2 (i := 218) rfl rfl)
theorem zmJ7_339 : zMl RJ7 339 yJ7_copyOfRangeByte_39247 := Or.inl (zm3 (i := 172) rfl rfl)
theorem zmJ7_343 : zMl RJ7 343 yJ7_checkLength_df160 := Or.inl (zm3 (i := 175) rfl rfl)
theorem zmJ8_194 : zMl RJ8 194 yJ9_max_7cf53 := Or.inl (zm2 (i := 200) rfl rfl)
theorem zmJ8_201 : zMl RJ8 201 yJ8_hugeLength_7cf53 := Or.inl (zm2 (i := 204) rfl rfl)
theorem zmX10_9 : zMl RX10 9 yX9_init := Or.inr ⟨"NewsExchange", zh1 (i := 41) rfl rfl⟩
theorem zmX10_18 : zMl RX10 18 yX1_init := Or.inr ⟨"NewsExchange", zh1 (i := 147) rfl rfl⟩
theorem zmX10_25 : zMl RX10 25 yX7_init := Or.inr ⟨"NewsExchange", zh1 (i := 150) rfl rfl⟩
theorem zmX10_47 : zMl RX10 47 yX0_init := Or.inr ⟨"NewsExchange", zh1 (i := 217) rfl rfl⟩
theorem zmX10_54 : zMl RX10 54 yX4_init := Or.inr ⟨"NewsExchange", zh1 (i := 231) rfl rfl⟩
theorem zmX0_37 : zMl RX0 37 yX10_isIn := Or.inr ⟨"NewsExchange", zh5 (i := 100) rfl rfl⟩
theorem zmX1_34 : zMl RX1 34 yX8_init := Or.inr ⟨"NewsExchange", zh1 (i := 53) rfl rfl⟩
theorem zmX1_57 : zMl RX1 57 yX10_isIn := Or.inr ⟨"NewsExchange", zh4 (i := 229) rfl rfl⟩
theorem zmX2_24 : zMl RX2 24 yX7_init := Or.inr ⟨"NewsExchange", zh1 (i := 204) rfl rfl⟩
theorem zmX3_19 : zMl RX3 19 yX10_isIn := Or.inr ⟨"NewsExchange", zh5 (i := 228) rfl rfl⟩
theorem zmX4_11 : zMl RX4 11 yX3_init := Or.inr ⟨"NewsExchange", zh1 (i := 236) rfl rfl⟩
theorem zmX6_32 : zMl RX6 32 yX3_init := Or.inr ⟨"NewsExchange", zh2 (i := 24) rfl rfl⟩
theorem zmX7_11 : zMl RX7 11 yX3_init := Or.inr ⟨"NewsExchange", zh1 (i := 156) rfl rfl⟩
theorem zmX9_21 : zMl RX9 21 yX1_init := Or.inr ⟨"NewsExchange", zh1 (i := 47) rfl rfl⟩
theorem zmL_34 : zMl RL 34 yX12_init := Or.inr ⟨"NewsExchangeLaw", zh2 (i := 119) rfl rfl⟩
theorem zmL_61 : zMl RL 61 yX11_init := Or.inr ⟨"NewsExchangeLaw", zh3 (i := 107) rfl rfl⟩
theorem zitL : Cond.initialized RL ∈ zG := zm1 (i := 0) rfl rfl
theorem zitX10 : Cond.initialized RX10 ∈ zG := zm1 (i := 1) rfl rfl
theorem zitX9 : Cond.initialized RX9 ∈ zG := zm1 (i := 2) rfl rfl
theorem zitX1 : Cond.initialized RX1 ∈ zG := zm1 (i := 3) rfl rfl
theorem zitX8 : Cond.initialized RX8 ∈ zG := zm1 (i := 4) rfl rfl
theorem zitX7 : Cond.initialized RX7 ∈ zG := zm1 (i := 5) rfl rfl
theorem zitX3 : Cond.initialized RX3 ∈ zG := zm1 (i := 6) rfl rfl
theorem zitX2 : Cond.initialized RX2 ∈ zG := zm1 (i := 7) rfl rfl
theorem zitX0 : Cond.initialized RX0 ∈ zG := zm1 (i := 8) rfl rfl
theorem zitX4 : Cond.initialized RX4 ∈ zG := zm1 (i := 9) rfl rfl
theorem zitX6 : Cond.initialized RX6 ∈ zG := zm1 (i := 10) rfl rfl
theorem zitJ5 : Cond.initialized RJ5 ∈ zG := zm1 (i := 11) rfl rfl
theorem zitJ4 : Cond.initialized RJ4 ∈ zG := zm1 (i := 12) rfl rfl
theorem zitJ0 : Cond.initialized RJ0 ∈ zG := zm1 (i := 13) rfl rfl
theorem zitJ2 : Cond.initialized RJ2 ∈ zG := zm1 (i := 14) rfl rfl
theorem zitX12 : Cond.initialized RX12 ∈ zG := zm1 (i := 15) rfl rfl
theorem zitJ8 : Cond.initialized RJ8 ∈ zG := zm1 (i := 16) rfl rfl
theorem zitJ9 : Cond.initialized RJ9 ∈ zG := zm1 (i := 17) rfl rfl
theorem zitJ7 : Cond.initialized RJ7 ∈ zG := zm1 (i := 18) rfl rfl
theorem zitJ10 : Cond.initialized RJ10 ∈ zG := zm1 (i := 19) rfl rfl
theorem zitJ3 : Cond.initialized RJ3 ∈ zG := zm1 (i := 20) rfl rfl
theorem zitJ1 : Cond.initialized RJ1 ∈ zG := zm1 (i := 21) rfl rfl
theorem zitJ6 : Cond.initialized RJ6 ∈ zG := zm1 (i := 22) rfl rfl
theorem zitX11 : Cond.initialized RX11 ∈ zG := zm1 (i := 23) rfl rfl
theorem zitX5 : Cond.initialized RX5 ∈ zG := zm1 (i := 30) rfl rfl
theorem zclL_18 : Cond.classLink RL 18 RX10 ∈ zG := zm1 (i := 31) rfl rfl
theorem zibX10 : Cond.instantiable RX10 10 ∈ zG := zm1 (i := 32) rfl rfl
theorem zclX10_7 : Cond.classLink RX10 7 RX9 ∈ zG := zm1 (i := 39) rfl rfl
theorem zibX9 : Cond.instantiable RX9 10 ∈ zG := zm1 (i := 40) rfl rfl
theorem zclX9_19 : Cond.classLink RX9 19 RX1 ∈ zG := zm1 (i := 45) rfl rfl
theorem zibX1 : Cond.instantiable RX1 8 ∈ zG := zm1 (i := 46) rfl rfl
theorem zclX1_32 : Cond.classLink RX1 32 RX8 ∈ zG := zm1 (i := 51) rfl rfl
theorem zibX8 : Cond.instantiable RX8 4 ∈ zG := zm1 (i := 52) rfl rfl
theorem zclX10_16 : Cond.classLink RX10 16 RX1 ∈ zG := zm1 (i := 146) rfl rfl
theorem zclX10_23 : Cond.classLink RX10 23 RX7 ∈ zG := zm1 (i := 148) rfl rfl
theorem zibX7 : Cond.instantiable RX7 6 ∈ zG := zm1 (i := 149) rfl rfl
theorem zclX7_9 : Cond.classLink RX7 9 RX3 ∈ zG := zm1 (i := 154) rfl rfl
theorem zibX3 : Cond.instantiable RX3 2 ∈ zG := zm1 (i := 155) rfl rfl
theorem zclX10_30 : Cond.classLink RX10 30 RX2 ∈ zG := zm1 (i := 196) rfl rfl
theorem zibX2 : Cond.instantiable RX2 3 ∈ zG := zm1 (i := 197) rfl rfl
theorem zclX2_9 : Cond.classLink RX2 9 RX7 ∈ zG := zm1 (i := 202) rfl rfl
theorem zclX10_45 : Cond.classLink RX10 45 RX0 ∈ zG := zm1 (i := 215) rfl rfl
theorem zibX0 : Cond.instantiable RX0 2 ∈ zG := zm1 (i := 216) rfl rfl
theorem zclX10_52 : Cond.classLink RX10 52 RX4 ∈ zG := zm1 (i := 229) rfl rfl
theorem zibX4 : Cond.instantiable RX4 4 ∈ zG := zm1 (i := 230) rfl rfl
theorem zclX4_9 : Cond.classLink RX4 9 RX3 ∈ zG := zm1 (i := 235) rfl rfl
theorem zclX10_59 : Cond.classLink RX10 59 RX6 ∈ zG := zm2 (i := 14) rfl rfl
theorem zibX6 : Cond.instantiable RX6 5 ∈ zG := zm2 (i := 15) rfl rfl
theorem zclX6_9 : Cond.classLink RX6 9 RX3 ∈ zG := zm2 (i := 20) rfl rfl
theorem zclX6_17 : Cond.classLink RX6 17 "[[I" ∈ zG := zm2 (i := 22) rfl rfl
theorem zclL_46 : Cond.classLink RL 46 RJ4 ∈ zG := zm2 (i := 83) rfl rfl
theorem zibJ4 : Cond.instantiable RJ4 4 ∈ zG := zm2 (i := 84) rfl rfl
theorem zcoJ2_20 : Cond.constant RJ2 20 (1073741823 : Int32) ∈ zG := zm2 (i := 100) rfl rfl
theorem zclL_32 : Cond.classLink RL 32 RX12 ∈ zG := zm2 (i := 117) rfl rfl
theorem zibX12 : Cond.instantiable RX12 12 ∈ zG := zm2 (i := 118) rfl rfl
theorem zclX12_7 : Cond.classLink RX12 7 RX11 ∈ zG := zm2 (i := 123) rfl rfl
theorem zcoL_23 : Cond.constant RL 23 (1664525 : Int32) ∈ zG := zm2 (i := 175) rfl rfl
theorem zcoL_24 : Cond.constant RL 24 (1013904223 : Int32) ∈ zG := zm2 (i := 176) rfl rfl
theorem zcoJ8_200 : Cond.constant RJ8 200 (2147483639 : Int32) ∈ zG := zm2 (i := 203) rfl rfl
theorem zcoJ5_39 : Cond.constant RJ5 39 (2147483647 : Int32) ∈ zG := zm2 (i := 207) rfl rfl
theorem zclJ7_311 : Cond.classLink RJ7 311 "[B" ∈ zG := zm2 (i := 217) rfl rfl
theorem zclL_59 : Cond.classLink RL 59 RX11 ∈ zG := zm3 (i := 105) rfl rfl
theorem zibX11 : Cond.instantiable RX11 6 ∈ zG := zm3 (i := 106) rfl rfl
theorem zclL_85 : Cond.classLink RL 85 "[I" ∈ zG := zm3 (i := 139) rfl rfl
theorem zclJ4_18 : Cond.classLink RJ4 18 RJ0 ∈ zG := zm3 (i := 146) rfl rfl
theorem zibJ0 : Cond.instantiable RJ0 4 ∈ zG := zm3 (i := 147) rfl rfl
theorem zclX10_84 : Cond.classLink RX10 84 "java/lang/IllegalArgumentException" ∈ zG := zm3 (i := 234) rfl rfl
theorem zcoJ6_265 : Cond.constant RJ6 265 (1431655765 : Int32) ∈ zG := zm4 (i := 163) rfl rfl
theorem zcoJ6_266 : Cond.constant RJ6 266 (858993459 : Int32) ∈ zG := zm4 (i := 164) rfl rfl
theorem zcoJ6_267 : Cond.constant RJ6 267 (252645135 : Int32) ∈ zG := zm4 (i := 165) rfl rfl
theorem zclL_197 : Cond.classLink RL 197 "java/lang/IllegalStateException" ∈ zG := zm4 (i := 177) rfl rfl
theorem zclX10_296 : Cond.classLink RX10 296 "java/lang/IndexOutOfBoundsException" ∈ zG := zm4 (i := 186) rfl rfl
theorem zclX10_225 : Cond.classLink RX10 225 "java/lang/IllegalStateException" ∈ zG := zm4 (i := 205) rfl rfl
theorem zcoX0_32 : Cond.constantLong RX0 32 (16777215 : Int64) ∈ zG := zm5 (i := 121) rfl rfl
theorem zclX12_82 : Cond.classLink RX12 82 "[I" ∈ zG := zm5 (i := 144) rfl rfl
theorem zclX7_49 : Cond.classLink RX7 49 RX5 ∈ zG := zm5 (i := 164) rfl rfl
theorem zibX5 : Cond.instantiable RX5 3 ∈ zG := zm5 (i := 165) rfl rfl
theorem zcoX12_106 : Cond.constant RX12 106 (99999 : Int32) ∈ zG := zm6 (i := 35) rfl rfl
theorem zcoX1_82 : Cond.constant RX1 82 (1000000 : Int32) ∈ zG := zm6 (i := 62) rfl rfl
theorem zcoL_257 : Cond.constant RL 257 (99999 : Int32) ∈ zG := zm6 (i := 71) rfl rfl
