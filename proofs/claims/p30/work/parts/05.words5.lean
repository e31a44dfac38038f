theorem gw596 : Cond.methodLink RX8 118 yX6_pairs ∈ GW := gw_of 596 (by decide +kernel) rfl
theorem gw597 : Cond.static yX6_pairs ∈ GW := gw_of 597 (by decide +kernel) rfl
theorem gw598 : Cond.code yX6_pairs cX6_pairs 4 (some .int) ∈ GW := gw_of 598 (by decide +kernel) rfl
theorem gw600 : Cond.methodLink RL 102 yL_hull ∈ GW := gw_of 600 (by decide +kernel) rfl
theorem gw601 : Cond.static yL_hull ∈ GW := gw_of 601 (by decide +kernel) rfl
set_option maxRecDepth 100000 in
theorem gw602 : Cond.code yL_hull cL_hull 11 (some .int) ∈ GW := gw_of 602 rfl rfl
theorem gw603 : Cond.methodLink RL 113 yL_copy ∈ GW := gw_of 603 (by decide +kernel) rfl
theorem gw604 : Cond.static yL_copy ∈ GW := gw_of 604 (by decide +kernel) rfl
theorem gw605 : Cond.code yL_copy cL_copy 7 none ∈ GW := gw_of 605 (by decide +kernel) rfl
