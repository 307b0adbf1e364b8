theorem uZ_rng {f : Int → Int} {k v lo hi : Int} (h : ∀ i : Int, lo ≤ f i ∧ f i ≤ hi) (hv : lo ≤ v ∧ v ≤ hi) : ∀ i : Int, lo ≤ uZ f k v i ∧ uZ f k v i ≤ hi := by
  intro i
  unfold uZ
  split
  · exact hv
  · exact h i
theorem uZ_inR {f : Int → Int} {k v : Int} (h : ∀ i : Int, inR (f i)) (hv : inR v) : ∀ i : Int, inR (uZ f k v i) := by
  intro i
  unfold uZ
  split
  · exact hv
  · exact h i
theorem cZ_rng {f : Int → Int} {sp dp n lo hi : Int} (h : ∀ i : Int, lo ≤ f i ∧ f i ≤ hi) : ∀ i : Int, lo ≤ cZ f sp dp n i ∧ cZ f sp dp n i ≤ hi := by
  intro i
  unfold cZ
  split
  · exact h _
  · exact h i
theorem ok_F_fill : okY y_F_fill 2 := by decide +kernel
theorem ok_J_bitCount : okY y_J_bitCount 1 := by decide +kernel
theorem ok_J_numberOfTrailingZeros : okY y_J_numberOfTrailingZeros 1 := by decide +kernel
theorem ok_A_init : okY y_A_init 0 := by decide +kernel
theorem ok_A_isThere : okY y_A_isThere 1 := by decide +kernel
theorem ok_A_clear : okY y_A_clear 1 := by decide +kernel
theorem ok_A_append : okY y_A_append 4 := by decide +kernel
theorem ok_A_hasRoom : okY y_A_hasRoom 1 := by decide +kernel
theorem ok_A_indexOf : okY y_A_indexOf 2 := by decide +kernel
theorem ok_A_haveSameEntries : okY y_A_haveSameEntries 2 := by decide +kernel
theorem ok_A_isSameEntry : okY y_A_isSameEntry 2 := by decide +kernel
theorem ok_A_copyEntries : okY y_A_copyEntries 2 := by decide +kernel
theorem ok_A_has : okY y_A_has 3 := by decide +kernel
theorem ok_A_costOf : okY y_A_costOf 3 := by decide +kernel
theorem ok_K_init : okY y_K_init 0 := by decide +kernel
theorem ok_K_tellInto : okY y_K_tellInto 2 := by decide +kernel
theorem ok_K_hasPort : okY y_K_hasPort 1 := by decide +kernel
theorem ok_K_hasRoomForPort : okY y_K_hasRoomForPort 1 := by decide +kernel
theorem ok_K_setPort : okY y_K_setPort 2 := by decide +kernel
theorem ok_K_removeFriendsOn : okY y_K_removeFriendsOn 1 := by decide +kernel
theorem ok_K_removeFriendsFrom : okY y_K_removeFriendsFrom 2 := by decide +kernel
theorem ok_K_hasFriend : okY y_K_hasFriend 1 := by decide +kernel
theorem ok_K_removeFriend : okY y_K_removeFriend 1 := by decide +kernel
theorem ok_K_hasRoomForFriend : okY y_K_hasRoomForFriend 0 := by decide +kernel
theorem ok_K_addFriend : okY y_K_addFriend 1 := by decide +kernel
theorem ok_Y_init : okY y_Y_init 2 := by decide +kernel
theorem ok_Y_forget : okY y_Y_forget 0 := by decide +kernel
theorem ok_Y_refresh : okY y_Y_refresh 0 := by decide +kernel
theorem ok_Y_beginAnew : okY y_Y_beginAnew 0 := by decide +kernel
theorem ok_Y_nearestUnsettled : okY y_Y_nearestUnsettled 0 := by decide +kernel
theorem ok_Y_goOnFrom : okY y_Y_goOnFrom 1 := by decide +kernel
theorem ok_Y_reach : okY y_Y_reach 3 := by decide +kernel
theorem ok_Y_leastTo : okY y_Y_leastTo 1 := by decide +kernel
theorem ok_Y_sumOver : okY y_Y_sumOver 2 := by decide +kernel
theorem ok_Y_startsTo : okY y_Y_startsTo 1 := by decide +kernel
theorem ok_B_init : okY y_B_init 1 := by decide +kernel
theorem ok_B_isRouter : okY y_B_isRouter 1 := by decide +kernel
theorem ok_B_make : okY y_B_make 0 := by decide +kernel
theorem ok_B_mustMake : okY y_B_mustMake 0 := by decide +kernel
theorem ok_B_ageOf : okY y_B_ageOf 1 := by decide +kernel
theorem ok_B_takeIn : okY y_B_takeIn 3 := by decide +kernel
theorem ok_B_known : okY y_B_known 0 := by decide +kernel
theorem ok_B_time : okY y_B_time 0 := by decide +kernel
theorem ok_B_port : okY y_B_port 2 := by decide +kernel
theorem ok_B_isNet : okY y_B_isNet 1 := by decide +kernel
theorem ok_B_isCost : okY y_B_isCost 1 := by decide +kernel
theorem ok_B_stepOf : okY y_B_stepOf 2 := by decide +kernel
theorem ok_B_friend : okY y_B_friend 3 := by decide +kernel
theorem ok_B_begin : okY y_B_begin 2 := by decide +kernel
theorem ok_B_entry : okY y_B_entry 3 := by decide +kernel
theorem ok_B_come : okY y_B_come 0 := by decide +kernel
theorem ok_B_hearOwn : okY y_B_hearOwn 1 := by decide +kernel
theorem ok_B_hearOther : okY y_B_hearOther 2 := by decide +kernel
theorem ok_B_pass : okY y_B_pass 1 := by decide +kernel
theorem ok_B_takeOutOld : okY y_B_takeOutOld 0 := by decide +kernel
theorem ok_B_number : okY y_B_number 1 := by decide +kernel
theorem ok_B_refuseNoRouter : okY y_B_refuseNoRouter 1 := by decide +kernel
theorem ok_B_told : okY y_B_told 3 := by decide +kernel
theorem ok_B_entries : okY y_B_entries 1 := by decide +kernel
theorem ok_B_age : okY y_B_age 1 := by decide +kernel
theorem ok_B_distance : okY y_B_distance 1 := by decide +kernel
theorem ok_B_cost : okY y_B_cost 1 := by decide +kernel
theorem ok_B_refuseNoNet : okY y_B_refuseNoNet 1 := by decide +kernel
theorem ok_B_firsts : okY y_B_firsts 1 := by decide +kernel
theorem ok_B_first : okY y_B_first 2 := by decide +kernel
theorem ok_B_placeOfBit : okY y_B_placeOfBit 2 := by decide +kernel
theorem ok_M_init : okY y_M_init 1 := by decide +kernel
theorem ok_M_thrown : okY y_M_thrown 0 := by decide +kernel
theorem ok_M_port : okY y_M_port 2 := by decide +kernel
theorem ok_M_in : okY y_M_in 3 := by decide +kernel
theorem ok_M_portCount : okY y_M_portCount 0 := by decide +kernel
theorem ok_M_friend : okY y_M_friend 3 := by decide +kernel
theorem ok_M_friendCount : okY y_M_friendCount 0 := by decide +kernel
theorem ok_M_begin : okY y_M_begin 2 := by decide +kernel
theorem ok_M_entry : okY y_M_entry 3 := by decide +kernel
theorem ok_M_find : okY y_M_find 3 := by decide +kernel
theorem ok_M_add : okY y_M_add 4 := by decide +kernel
theorem ok_M_come : okY y_M_come 0 := by decide +kernel
theorem ok_M_copy : okY y_M_copy 2 := by decide +kernel
theorem ok_M_pass : okY y_M_pass 1 := by decide +kernel
theorem ok_M_make : okY y_M_make 0 := by decide +kernel
theorem ok_M_tell : okY y_M_tell 0 := by decide +kernel
theorem ok_M_isToldNow : okY y_M_isToldNow 0 := by decide +kernel
theorem ok_M_number : okY y_M_number 1 := by decide +kernel
theorem ok_M_told : okY y_M_told 3 := by decide +kernel
theorem ok_M_entries : okY y_M_entries 1 := by decide +kernel
theorem ok_M_age : okY y_M_age 1 := by decide +kernel
theorem ok_M_distance : okY y_M_distance 1 := by decide +kernel
theorem ok_M_check : okY y_M_check 0 := by decide +kernel
theorem ok_M_spread : okY y_M_spread 1 := by decide +kernel
theorem ok_M_cost : okY y_M_cost 1 := by decide +kernel
theorem ok_M_reach : okY y_M_reach 1 := by decide +kernel
theorem ok_M_firsts : okY y_M_firsts 1 := by decide +kernel
theorem ok_M_step : okY y_M_step 2 := by decide +kernel
theorem ok_M_first : okY y_M_first 2 := by decide +kernel
theorem ok_M_known : okY y_M_known 0 := by decide +kernel
theorem ok_M_time : okY y_M_time 0 := by decide +kernel
theorem ok_L_cell : okY y_L_cell 2 := by decide +kernel
theorem ok_L_port : okY y_L_port 4 := by decide +kernel
theorem ok_L_friend : okY y_L_friend 5 := by decide +kernel
theorem ok_L_begin : okY y_L_begin 3 := by decide +kernel
theorem ok_L_entry : okY y_L_entry 5 := by decide +kernel
theorem ok_L_come : okY y_L_come 2 := by decide +kernel
theorem ok_L_pass : okY y_L_pass 3 := by decide +kernel
theorem ok_L_number : okY y_L_number 3 := by decide +kernel
theorem ok_L_told : okY y_L_told 5 := by decide +kernel
theorem ok_L_entries : okY y_L_entries 3 := by decide +kernel
theorem ok_L_age : okY y_L_age 3 := by decide +kernel
theorem ok_L_distance : okY y_L_distance 3 := by decide +kernel
theorem ok_L_cost : okY y_L_cost 3 := by decide +kernel
theorem ok_L_firsts : okY y_L_firsts 3 := by decide +kernel
theorem ok_L_first : okY y_L_first 4 := by decide +kernel
theorem ok_L_law : okY y_L_law 1 := by decide +kernel
