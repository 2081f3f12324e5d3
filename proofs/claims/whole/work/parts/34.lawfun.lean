theorem bw_902 : Cond.code yX9_type cX9_type 4 (some .int) ∈ bigw := lt_2 57 (by decide +kernel) rfl
theorem bw_903 : Cond.methodLink RL 13 yX9_type ∈ bigw := lt_2 54 (by decide +kernel) rfl
theorem bw_904 : Cond.instanceMethod yX9_type ∈ bigw := lt_2 55 (by decide +kernel) rfl
theorem bw_905 : Cond.selects RX9 yX9_type yX9_type ∈ bigw := lt_2 56 (by decide +kernel) rfl
theorem bw_906 : Cond.code yX10_type cX10_type 3 (some .int) ∈ bigw := lt_4 135 (by decide +kernel) rfl
theorem bw_907 : Cond.methodLink RL 17 yX10_type ∈ bigw := lt_4 132 (by decide +kernel) rfl
theorem bw_908 : Cond.instanceMethod yX10_type ∈ bigw := lt_4 133 (by decide +kernel) rfl
theorem bw_909 : Cond.selects RX10 yX10_type yX10_type ∈ bigw := lt_4 134 (by decide +kernel) rfl
theorem bw_910 : Cond.code yX9_wipe cX9_wipe 4 (some .int) ∈ bigw := lt_2 107 (by decide +kernel) rfl
theorem bw_911 : Cond.methodLink RL 18 yX9_wipe ∈ bigw := lt_2 104 (by decide +kernel) rfl
theorem bw_912 : Cond.instanceMethod yX9_wipe ∈ bigw := lt_2 105 (by decide +kernel) rfl
theorem bw_913 : Cond.selects RX9 yX9_wipe yX9_wipe ∈ bigw := lt_2 106 (by decide +kernel) rfl
theorem bw_914 : Cond.code yX10_wipe cX10_wipe 3 (some .int) ∈ bigw := lt_4 145 (by decide +kernel) rfl
theorem bw_915 : Cond.methodLink RL 22 yX10_wipe ∈ bigw := lt_4 142 (by decide +kernel) rfl
theorem bw_916 : Cond.instanceMethod yX10_wipe ∈ bigw := lt_4 143 (by decide +kernel) rfl
theorem bw_917 : Cond.selects RX10 yX10_wipe yX10_wipe ∈ bigw := lt_4 144 (by decide +kernel) rfl
theorem bw_918 : Cond.code yX9_undo cX9_undo 3 (some .int) ∈ bigw := lt_2 111 (by decide +kernel) rfl
theorem bw_919 : Cond.methodLink RL 23 yX9_undo ∈ bigw := lt_2 108 (by decide +kernel) rfl
theorem bw_920 : Cond.instanceMethod yX9_undo ∈ bigw := lt_2 109 (by decide +kernel) rfl
theorem bw_921 : Cond.selects RX9 yX9_undo yX9_undo ∈ bigw := lt_2 110 (by decide +kernel) rfl
theorem bw_922 : Cond.code yX10_undo cX10_undo 2 (some .int) ∈ bigw := lt_4 149 (by decide +kernel) rfl
theorem bw_923 : Cond.methodLink RL 26 yX10_undo ∈ bigw := lt_4 146 (by decide +kernel) rfl
theorem bw_924 : Cond.instanceMethod yX10_undo ∈ bigw := lt_4 147 (by decide +kernel) rfl
theorem bw_925 : Cond.selects RX10 yX10_undo yX10_undo ∈ bigw := lt_4 148 (by decide +kernel) rfl
theorem bw_926 : Cond.methodLink RL 27 yX9_fault ∈ bigw := lt_2 112 (by decide +kernel) rfl
theorem bw_927 : Cond.code yX10_fault cX10_fault 2 (some .int) ∈ bigw := lt_4 153 (by decide +kernel) rfl
theorem bw_928 : Cond.methodLink RL 30 yX10_fault ∈ bigw := lt_4 150 (by decide +kernel) rfl
theorem bw_929 : Cond.instanceMethod yX10_fault ∈ bigw := lt_4 151 (by decide +kernel) rfl
theorem bw_930 : Cond.selects RX10 yX10_fault yX10_fault ∈ bigw := lt_4 152 (by decide +kernel) rfl
theorem bw_931 : Cond.methodLink RL 31 yX9_gone ∈ bigw := lt_2 116 (by decide +kernel) rfl
theorem bw_932 : Cond.code yX10_gone cX10_gone 3 (some .int) ∈ bigw := lt_4 190 (by decide +kernel) rfl
theorem bw_933 : Cond.methodLink RL 34 yX10_gone ∈ bigw := lt_4 187 (by decide +kernel) rfl
theorem bw_934 : Cond.instanceMethod yX10_gone ∈ bigw := lt_4 188 (by decide +kernel) rfl
theorem bw_935 : Cond.selects RX10 yX10_gone yX10_gone ∈ bigw := lt_4 189 (by decide +kernel) rfl
theorem bw_936 : Cond.methodLink RL 35 yX9_need ∈ bigw := lt_2 120 (by decide +kernel) rfl
theorem bw_937 : Cond.code yX10_need cX10_need 3 (some .int) ∈ bigw := lt_4 206 (by decide +kernel) rfl
theorem bw_938 : Cond.methodLink RL 38 yX10_need ∈ bigw := lt_4 203 (by decide +kernel) rfl
theorem bw_939 : Cond.instanceMethod yX10_need ∈ bigw := lt_4 204 (by decide +kernel) rfl
theorem bw_940 : Cond.selects RX10 yX10_need yX10_need ∈ bigw := lt_4 205 (by decide +kernel) rfl
theorem bw_941 : Cond.methodLink RL 39 yX9_event ∈ bigw := lt_2 124 (by decide +kernel) rfl
theorem bw_942 : Cond.methodLink RL 43 yX10_event ∈ bigw := lt_4 218 (by decide +kernel) rfl
theorem bw_943 : Cond.code yX9_back cX9_back 1 (some .int) ∈ bigw := lt_2 135 (by decide +kernel) rfl
theorem bw_944 : Cond.methodLink RL 44 yX9_back ∈ bigw := lt_2 132 (by decide +kernel) rfl
theorem bw_945 : Cond.instanceMethod yX9_back ∈ bigw := lt_2 133 (by decide +kernel) rfl
theorem bw_946 : Cond.selects RX9 yX9_back yX9_back ∈ bigw := lt_2 134 (by decide +kernel) rfl
theorem bw_947 : Cond.code yX10_back cX10_back 1 (some .int) ∈ bigw := lt_4 228 (by decide +kernel) rfl
theorem bw_948 : Cond.methodLink RL 48 yX10_back ∈ bigw := lt_4 225 (by decide +kernel) rfl
theorem bw_949 : Cond.instanceMethod yX10_back ∈ bigw := lt_4 226 (by decide +kernel) rfl
theorem bw_950 : Cond.selects RX10 yX10_back yX10_back ∈ bigw := lt_4 227 (by decide +kernel) rfl
theorem bw_951 : Cond.code yX9_read cX9_read 5 (some .int) ∈ bigw := lt_2 143 (by decide +kernel) rfl
theorem bw_952 : Cond.methodLink RL 49 yX9_read ∈ bigw := lt_2 140 (by decide +kernel) rfl
theorem bw_953 : Cond.instanceMethod yX9_read ∈ bigw := lt_2 141 (by decide +kernel) rfl
theorem bw_954 : Cond.selects RX9 yX9_read yX9_read ∈ bigw := lt_2 142 (by decide +kernel) rfl
theorem bw_955 : Cond.code yX10_read cX10_read 4 (some .int) ∈ bigw := lt_4 232 (by decide +kernel) rfl
theorem bw_956 : Cond.methodLink RL 52 yX10_read ∈ bigw := lt_4 229 (by decide +kernel) rfl
theorem bw_957 : Cond.instanceMethod yX10_read ∈ bigw := lt_4 230 (by decide +kernel) rfl
theorem bw_958 : Cond.selects RX10 yX10_read yX10_read ∈ bigw := lt_4 231 (by decide +kernel) rfl
theorem bw_959 : Cond.methodLink RL 53 yX9_at ∈ bigw := lt_2 149 (by decide +kernel) rfl
theorem bw_960 : Cond.code yX10_at cX10_at 4 (some .int) ∈ bigw := lt_5 4 (by decide +kernel) rfl
theorem bw_961 : Cond.methodLink RL 56 yX10_at ∈ bigw := lt_5 1 (by decide +kernel) rfl
theorem bw_962 : Cond.instanceMethod yX10_at ∈ bigw := lt_5 2 (by decide +kernel) rfl
theorem bw_963 : Cond.selects RX10 yX10_at yX10_at ∈ bigw := lt_5 3 (by decide +kernel) rfl
theorem bw_964 : Cond.code yX9_field cX9_field 6 (some .int) ∈ bigw := lt_2 212 (by decide +kernel) rfl
theorem bw_965 : Cond.methodLink RL 57 yX9_field ∈ bigw := lt_2 209 (by decide +kernel) rfl
theorem bw_966 : Cond.instanceMethod yX9_field ∈ bigw := lt_2 210 (by decide +kernel) rfl
theorem bw_967 : Cond.selects RX9 yX9_field yX9_field ∈ bigw := lt_2 211 (by decide +kernel) rfl
theorem bw_968 : Cond.code yX10_field cX10_field 4 (some .int) ∈ bigw := lt_5 55 (by decide +kernel) rfl
theorem bw_969 : Cond.methodLink RL 60 yX10_field ∈ bigw := lt_5 52 (by decide +kernel) rfl
theorem bw_970 : Cond.instanceMethod yX10_field ∈ bigw := lt_5 53 (by decide +kernel) rfl
theorem bw_971 : Cond.selects RX10 yX10_field yX10_field ∈ bigw := lt_5 54 (by decide +kernel) rfl
theorem bw_972 : Cond.methodLink RL 61 yX9_up ∈ bigw := lt_2 213 (by decide +kernel) rfl
theorem bw_973 : Cond.code yX10_up cX10_up 3 (some .int) ∈ bigw := lt_5 63 (by decide +kernel) rfl
theorem bw_974 : Cond.methodLink RL 64 yX10_up ∈ bigw := lt_5 60 (by decide +kernel) rfl
theorem bw_975 : Cond.instanceMethod yX10_up ∈ bigw := lt_5 61 (by decide +kernel) rfl
theorem bw_976 : Cond.selects RX10 yX10_up yX10_up ∈ bigw := lt_5 62 (by decide +kernel) rfl
theorem bw_977 : Cond.methodLink RL 65 yX9_met ∈ bigw := lt_2 227 (by decide +kernel) rfl
theorem bw_978 : Cond.code yX10_met cX10_met 2 (some .int) ∈ bigw := lt_5 75 (by decide +kernel) rfl
theorem bw_979 : Cond.methodLink RL 68 yX10_met ∈ bigw := lt_5 72 (by decide +kernel) rfl
theorem bw_980 : Cond.instanceMethod yX10_met ∈ bigw := lt_5 73 (by decide +kernel) rfl
theorem bw_981 : Cond.selects RX10 yX10_met yX10_met ∈ bigw := lt_5 74 (by decide +kernel) rfl
theorem bw_982 : Cond.methodLink RL 69 yX9_stood ∈ bigw := lt_2 231 (by decide +kernel) rfl
theorem bw_983 : Cond.code yX10_stood cX10_stood 2 (some .int) ∈ bigw := lt_5 83 (by decide +kernel) rfl
theorem bw_984 : Cond.methodLink RL 72 yX10_stood ∈ bigw := lt_5 80 (by decide +kernel) rfl
theorem bw_985 : Cond.instanceMethod yX10_stood ∈ bigw := lt_5 81 (by decide +kernel) rfl
theorem bw_986 : Cond.selects RX10 yX10_stood yX10_stood ∈ bigw := lt_5 82 (by decide +kernel) rfl
theorem bw_987 : Cond.code yX9_wrongly cX9_wrongly 1 (some .int) ∈ bigw := lt_3 3 (by decide +kernel) rfl
theorem bw_988 : Cond.methodLink RL 73 yX9_wrongly ∈ bigw := lt_3 0 (by decide +kernel) rfl
theorem bw_989 : Cond.instanceMethod yX9_wrongly ∈ bigw := lt_3 1 (by decide +kernel) rfl
theorem bw_990 : Cond.selects RX9 yX9_wrongly yX9_wrongly ∈ bigw := lt_3 2 (by decide +kernel) rfl
theorem bw_991 : Cond.code yX10_wrongly cX10_wrongly 1 (some .int) ∈ bigw := lt_5 95 (by decide +kernel) rfl
theorem bw_992 : Cond.methodLink RL 76 yX10_wrongly ∈ bigw := lt_5 92 (by decide +kernel) rfl
theorem bw_993 : Cond.instanceMethod yX10_wrongly ∈ bigw := lt_5 93 (by decide +kernel) rfl
theorem bw_994 : Cond.selects RX10 yX10_wrongly yX10_wrongly ∈ bigw := lt_5 94 (by decide +kernel) rfl
theorem bw_995 : Cond.methodLink RL 77 yX9_first ∈ bigw := lt_3 4 (by decide +kernel) rfl
theorem bw_996 : Cond.code yX10_first cX10_first 2 (some .int) ∈ bigw := lt_5 103 (by decide +kernel) rfl
theorem bw_997 : Cond.methodLink RL 80 yX10_first ∈ bigw := lt_5 100 (by decide +kernel) rfl
theorem bw_998 : Cond.instanceMethod yX10_first ∈ bigw := lt_5 101 (by decide +kernel) rfl
theorem bw_999 : Cond.selects RX10 yX10_first yX10_first ∈ bigw := lt_5 102 (by decide +kernel) rfl
theorem bw_1000 : Cond.methodLink RL 81 yX9_gate ∈ bigw := lt_3 8 (by decide +kernel) rfl
theorem bw_1001 : Cond.code yX10_gate cX10_gate 1 (some .int) ∈ bigw := lt_5 111 (by decide +kernel) rfl
theorem bw_1002 : Cond.methodLink RL 84 yX10_gate ∈ bigw := lt_5 108 (by decide +kernel) rfl
theorem bw_1003 : Cond.instanceMethod yX10_gate ∈ bigw := lt_5 109 (by decide +kernel) rfl
theorem bw_1004 : Cond.selects RX10 yX10_gate yX10_gate ∈ bigw := lt_5 110 (by decide +kernel) rfl
theorem bw_1005 : Cond.methodLink RL 85 yX9_rest ∈ bigw := lt_3 12 (by decide +kernel) rfl
theorem bw_1006 : Cond.code yX10_rest cX10_rest 1 (some .int) ∈ bigw := lt_5 119 (by decide +kernel) rfl
theorem bw_1007 : Cond.methodLink RL 88 yX10_rest ∈ bigw := lt_5 116 (by decide +kernel) rfl
theorem bw_1008 : Cond.instanceMethod yX10_rest ∈ bigw := lt_5 117 (by decide +kernel) rfl
theorem bw_1009 : Cond.selects RX10 yX10_rest yX10_rest ∈ bigw := lt_5 118 (by decide +kernel) rfl
theorem bw_1010 : Cond.methodLink RL 89 yX9_plough ∈ bigw := lt_3 16 (by decide +kernel) rfl
theorem bw_1011 : Cond.code yX10_plough cX10_plough 3 (some .int) ∈ bigw := lt_5 127 (by decide +kernel) rfl
theorem bw_1012 : Cond.methodLink RL 92 yX10_plough ∈ bigw := lt_5 124 (by decide +kernel) rfl
theorem bw_1013 : Cond.instanceMethod yX10_plough ∈ bigw := lt_5 125 (by decide +kernel) rfl
theorem bw_1014 : Cond.selects RX10 yX10_plough yX10_plough ∈ bigw := lt_5 126 (by decide +kernel) rfl
theorem bw_1015 : Cond.code yX9_lie cX9_lie 3 (some .int) ∈ bigw := lt_3 35 (by decide +kernel) rfl
theorem bw_1016 : Cond.methodLink RL 93 yX9_lie ∈ bigw := lt_3 32 (by decide +kernel) rfl
theorem bw_1017 : Cond.instanceMethod yX9_lie ∈ bigw := lt_3 33 (by decide +kernel) rfl
theorem bw_1018 : Cond.selects RX9 yX9_lie yX9_lie ∈ bigw := lt_3 34 (by decide +kernel) rfl
theorem bw_1019 : Cond.code yX10_lie cX10_lie 3 (some .int) ∈ bigw := lt_5 143 (by decide +kernel) rfl
theorem bw_1020 : Cond.methodLink RL 96 yX10_lie ∈ bigw := lt_5 140 (by decide +kernel) rfl
theorem bw_1021 : Cond.instanceMethod yX10_lie ∈ bigw := lt_5 141 (by decide +kernel) rfl
theorem bw_1022 : Cond.selects RX10 yX10_lie yX10_lie ∈ bigw := lt_5 142 (by decide +kernel) rfl
theorem bw_1023 : Cond.code yX9_when cX9_when 4 (some .int) ∈ bigw := lt_3 52 (by decide +kernel) rfl
theorem bw_1024 : Cond.methodLink RL 97 yX9_when ∈ bigw := lt_3 49 (by decide +kernel) rfl
theorem bw_1025 : Cond.instanceMethod yX9_when ∈ bigw := lt_3 50 (by decide +kernel) rfl
theorem bw_1026 : Cond.selects RX9 yX9_when yX9_when ∈ bigw := lt_3 51 (by decide +kernel) rfl
theorem bw_1027 : Cond.code yX10_when cX10_when 3 (some .int) ∈ bigw := lt_5 155 (by decide +kernel) rfl
theorem bw_1028 : Cond.methodLink RL 100 yX10_when ∈ bigw := lt_5 152 (by decide +kernel) rfl
theorem bw_1029 : Cond.instanceMethod yX10_when ∈ bigw := lt_5 153 (by decide +kernel) rfl
theorem bw_1030 : Cond.selects RX10 yX10_when yX10_when ∈ bigw := lt_5 154 (by decide +kernel) rfl
theorem bw_1031 : Cond.methodLink RL 101 yX9_spare ∈ bigw := lt_3 57 (by decide +kernel) rfl
theorem bw_1032 : Cond.code yX10_spare cX10_spare 2 (some .int) ∈ bigw := lt_5 163 (by decide +kernel) rfl
theorem bw_1033 : Cond.methodLink RL 104 yX10_spare ∈ bigw := lt_5 160 (by decide +kernel) rfl
theorem bw_1034 : Cond.instanceMethod yX10_spare ∈ bigw := lt_5 161 (by decide +kernel) rfl
theorem bw_1035 : Cond.selects RX10 yX10_spare yX10_spare ∈ bigw := lt_5 162 (by decide +kernel) rfl
theorem bw_1036 : Cond.code yX9_seen cX9_seen 4 (some .int) ∈ bigw := lt_3 75 (by decide +kernel) rfl
theorem bw_1037 : Cond.methodLink RL 105 yX9_seen ∈ bigw := lt_3 72 (by decide +kernel) rfl
theorem bw_1038 : Cond.instanceMethod yX9_seen ∈ bigw := lt_3 73 (by decide +kernel) rfl
theorem bw_1039 : Cond.selects RX9 yX9_seen yX9_seen ∈ bigw := lt_3 74 (by decide +kernel) rfl
theorem bw_1040 : Cond.code yX10_seen cX10_seen 4 (some .int) ∈ bigw := lt_5 179 (by decide +kernel) rfl
theorem bw_1041 : Cond.methodLink RL 108 yX10_seen ∈ bigw := lt_5 176 (by decide +kernel) rfl
theorem bw_1042 : Cond.instanceMethod yX10_seen ∈ bigw := lt_5 177 (by decide +kernel) rfl
theorem bw_1043 : Cond.selects RX10 yX10_seen yX10_seen ∈ bigw := lt_5 178 (by decide +kernel) rfl
theorem bw_1044 : Cond.code yX9_forget cX9_forget 2 (some .int) ∈ bigw := lt_3 83 (by decide +kernel) rfl
theorem bw_1045 : Cond.methodLink RL 109 yX9_forget ∈ bigw := lt_3 80 (by decide +kernel) rfl
theorem bw_1046 : Cond.instanceMethod yX9_forget ∈ bigw := lt_3 81 (by decide +kernel) rfl
theorem bw_1047 : Cond.selects RX9 yX9_forget yX9_forget ∈ bigw := lt_3 82 (by decide +kernel) rfl
theorem bw_1048 : Cond.code yX10_forget cX10_forget 2 (some .int) ∈ bigw := lt_5 183 (by decide +kernel) rfl
theorem bw_1049 : Cond.methodLink RL 112 yX10_forget ∈ bigw := lt_5 180 (by decide +kernel) rfl
theorem bw_1050 : Cond.instanceMethod yX10_forget ∈ bigw := lt_5 181 (by decide +kernel) rfl
theorem bw_1051 : Cond.selects RX10 yX10_forget yX10_forget ∈ bigw := lt_5 182 (by decide +kernel) rfl
theorem bw_1052 : Cond.methodLink RL 113 yX9_never ∈ bigw := lt_3 84 (by decide +kernel) rfl
theorem bw_1053 : Cond.code yX10_never cX10_never 1 (some .int) ∈ bigw := lt_5 187 (by decide +kernel) rfl
theorem bw_1054 : Cond.methodLink RL 116 yX10_never ∈ bigw := lt_5 184 (by decide +kernel) rfl
theorem bw_1055 : Cond.instanceMethod yX10_never ∈ bigw := lt_5 185 (by decide +kernel) rfl
theorem bw_1056 : Cond.selects RX10 yX10_never yX10_never ∈ bigw := lt_5 186 (by decide +kernel) rfl
theorem bw_1057 : Cond.methodLink RL 117 yX9_was ∈ bigw := lt_3 93 (by decide +kernel) rfl
theorem bw_1058 : Cond.code yX10_was cX10_was 3 (some .int) ∈ bigw := lt_5 199 (by decide +kernel) rfl
theorem bw_1059 : Cond.methodLink RL 120 yX10_was ∈ bigw := lt_5 196 (by decide +kernel) rfl
theorem bw_1060 : Cond.instanceMethod yX10_was ∈ bigw := lt_5 197 (by decide +kernel) rfl
theorem bw_1061 : Cond.selects RX10 yX10_was yX10_was ∈ bigw := lt_5 198 (by decide +kernel) rfl
theorem bw_1062 : Cond.methodLink RL 121 yX9_ask ∈ bigw := lt_3 108 (by decide +kernel) rfl
theorem bw_1063 : Cond.code yX10_ask cX10_ask 2 (some .int) ∈ bigw := lt_5 211 (by decide +kernel) rfl
theorem bw_1064 : Cond.methodLink RL 124 yX10_ask ∈ bigw := lt_5 208 (by decide +kernel) rfl
theorem bw_1065 : Cond.instanceMethod yX10_ask ∈ bigw := lt_5 209 (by decide +kernel) rfl
theorem bw_1066 : Cond.selects RX10 yX10_ask yX10_ask ∈ bigw := lt_5 210 (by decide +kernel) rfl
theorem bw_1067 : Cond.methodLink RL 125 yX9_chance ∈ bigw := lt_3 117 (by decide +kernel) rfl
theorem bw_1068 : Cond.code yX10_chance cX10_chance 4 (some .long) ∈ bigw := lt_5 219 (by decide +kernel) rfl
theorem bw_1069 : Cond.methodLink RL 129 yX10_chance ∈ bigw := lt_5 216 (by decide +kernel) rfl
theorem bw_1070 : Cond.instanceMethod yX10_chance ∈ bigw := lt_5 217 (by decide +kernel) rfl
theorem bw_1071 : Cond.selects RX10 yX10_chance yX10_chance ∈ bigw := lt_5 218 (by decide +kernel) rfl
theorem bw_1072 : Cond.methodLink RL 130 yX9_years ∈ bigw := lt_3 137 (by decide +kernel) rfl
theorem bw_1073 : Cond.code yX10_years cX10_years 4 (some .int) ∈ bigw := lt_5 234 (by decide +kernel) rfl
theorem bw_1074 : Cond.methodLink RL 133 yX10_years ∈ bigw := lt_5 231 (by decide +kernel) rfl
theorem bw_1075 : Cond.instanceMethod yX10_years ∈ bigw := lt_5 232 (by decide +kernel) rfl
theorem bw_1076 : Cond.selects RX10 yX10_years yX10_years ∈ bigw := lt_5 233 (by decide +kernel) rfl
theorem bw_1077 : Cond.code yX9_sheet cX9_sheet 4 (some .int) ∈ bigw := lt_3 155 (by decide +kernel) rfl
theorem bw_1078 : Cond.methodLink RL 134 yX9_sheet ∈ bigw := lt_3 152 (by decide +kernel) rfl
theorem bw_1079 : Cond.instanceMethod yX9_sheet ∈ bigw := lt_3 153 (by decide +kernel) rfl
theorem bw_1080 : Cond.selects RX9 yX9_sheet yX9_sheet ∈ bigw := lt_3 154 (by decide +kernel) rfl
theorem bw_1081 : Cond.code yX10_sheet cX10_sheet 5 (some .int) ∈ bigw := lt_6 3 (by decide +kernel) rfl
theorem bw_1082 : Cond.methodLink RL 137 yX10_sheet ∈ bigw := lt_6 0 (by decide +kernel) rfl
theorem bw_1083 : Cond.instanceMethod yX10_sheet ∈ bigw := lt_6 1 (by decide +kernel) rfl
theorem bw_1084 : Cond.selects RX10 yX10_sheet yX10_sheet ∈ bigw := lt_6 2 (by decide +kernel) rfl
theorem bw_1085 : Cond.code yX9_lose cX9_lose 4 (some .int) ∈ bigw := lt_3 163 (by decide +kernel) rfl
theorem bw_1086 : Cond.methodLink RL 138 yX9_lose ∈ bigw := lt_3 160 (by decide +kernel) rfl
theorem bw_1087 : Cond.instanceMethod yX9_lose ∈ bigw := lt_3 161 (by decide +kernel) rfl
theorem bw_1088 : Cond.selects RX9 yX9_lose yX9_lose ∈ bigw := lt_3 162 (by decide +kernel) rfl
theorem bw_1089 : Cond.code yX10_lose cX10_lose 2 (some .int) ∈ bigw := lt_6 7 (by decide +kernel) rfl
theorem bw_1090 : Cond.methodLink RL 141 yX10_lose ∈ bigw := lt_6 4 (by decide +kernel) rfl
theorem bw_1091 : Cond.instanceMethod yX10_lose ∈ bigw := lt_6 5 (by decide +kernel) rfl
theorem bw_1092 : Cond.selects RX10 yX10_lose yX10_lose ∈ bigw := lt_6 6 (by decide +kernel) rfl
theorem bw_1093 : Cond.code yX9_put cX9_put 6 (some .int) ∈ bigw := lt_3 167 (by decide +kernel) rfl
theorem bw_1094 : Cond.methodLink RL 142 yX9_put ∈ bigw := lt_3 164 (by decide +kernel) rfl
theorem bw_1095 : Cond.instanceMethod yX9_put ∈ bigw := lt_3 165 (by decide +kernel) rfl
theorem bw_1096 : Cond.selects RX9 yX9_put yX9_put ∈ bigw := lt_3 166 (by decide +kernel) rfl
theorem bw_1097 : Cond.code yX10_put cX10_put 6 (some .int) ∈ bigw := lt_6 11 (by decide +kernel) rfl
theorem bw_1098 : Cond.methodLink RL 146 yX10_put ∈ bigw := lt_6 8 (by decide +kernel) rfl
theorem bw_1099 : Cond.instanceMethod yX10_put ∈ bigw := lt_6 9 (by decide +kernel) rfl
theorem bw_1100 : Cond.selects RX10 yX10_put yX10_put ∈ bigw := lt_6 10 (by decide +kernel) rfl
theorem bw_1101 : Cond.code yX9_get cX9_get 4 (some .int) ∈ bigw := lt_3 184 (by decide +kernel) rfl
theorem bw_1102 : Cond.methodLink RL 147 yX9_get ∈ bigw := lt_3 181 (by decide +kernel) rfl
theorem bw_1103 : Cond.instanceMethod yX9_get ∈ bigw := lt_3 182 (by decide +kernel) rfl
theorem bw_1104 : Cond.selects RX9 yX9_get yX9_get ∈ bigw := lt_3 183 (by decide +kernel) rfl
theorem bw_1105 : Cond.code yX10_get cX10_get 5 (some .int) ∈ bigw := lt_6 23 (by decide +kernel) rfl
theorem bw_1106 : Cond.methodLink RL 150 yX10_get ∈ bigw := lt_6 20 (by decide +kernel) rfl
theorem bw_1107 : Cond.instanceMethod yX10_get ∈ bigw := lt_6 21 (by decide +kernel) rfl
theorem bw_1108 : Cond.selects RX10 yX10_get yX10_get ∈ bigw := lt_6 22 (by decide +kernel) rfl
theorem bw_1109 : Cond.code yX9_copy cX9_copy 8 (some .int) ∈ bigw := lt_3 189 (by decide +kernel) rfl
theorem bw_1110 : Cond.methodLink RL 151 yX9_copy ∈ bigw := lt_3 186 (by decide +kernel) rfl
theorem bw_1111 : Cond.instanceMethod yX9_copy ∈ bigw := lt_3 187 (by decide +kernel) rfl
theorem bw_1112 : Cond.selects RX9 yX9_copy yX9_copy ∈ bigw := lt_3 188 (by decide +kernel) rfl
theorem bw_1113 : Cond.code yX10_copy cX10_copy 7 (some .int) ∈ bigw := lt_6 28 (by decide +kernel) rfl
theorem bw_1114 : Cond.methodLink RL 155 yX10_copy ∈ bigw := lt_6 25 (by decide +kernel) rfl
theorem bw_1115 : Cond.instanceMethod yX10_copy ∈ bigw := lt_6 26 (by decide +kernel) rfl
theorem bw_1116 : Cond.selects RX10 yX10_copy yX10_copy ∈ bigw := lt_6 27 (by decide +kernel) rfl
theorem bw_1117 : Cond.code yX9_write cX9_write 7 (some .int) ∈ bigw := lt_3 197 (by decide +kernel) rfl
theorem bw_1118 : Cond.methodLink RL 156 yX9_write ∈ bigw := lt_3 194 (by decide +kernel) rfl
theorem bw_1119 : Cond.instanceMethod yX9_write ∈ bigw := lt_3 195 (by decide +kernel) rfl
theorem bw_1120 : Cond.selects RX9 yX9_write yX9_write ∈ bigw := lt_3 196 (by decide +kernel) rfl
theorem bw_1121 : Cond.code yX10_write cX10_write 4 (some .int) ∈ bigw := lt_6 32 (by decide +kernel) rfl
theorem bw_1122 : Cond.methodLink RL 159 yX10_write ∈ bigw := lt_6 29 (by decide +kernel) rfl
theorem bw_1123 : Cond.instanceMethod yX10_write ∈ bigw := lt_6 30 (by decide +kernel) rfl
theorem bw_1124 : Cond.selects RX10 yX10_write yX10_write ∈ bigw := lt_6 31 (by decide +kernel) rfl
theorem bw_1125 : Cond.methodLink RL 160 yX9_count ∈ bigw := lt_3 199 (by decide +kernel) rfl
theorem bw_1126 : Cond.methodLink RL 163 yX10_count ∈ bigw := lt_6 33 (by decide +kernel) rfl
theorem bw_1127 : Cond.code yX9_digest cX9_digest 5 (some .long) ∈ bigw := lt_3 206 (by decide +kernel) rfl
theorem bw_1128 : Cond.methodLink RL 164 yX9_digest ∈ bigw := lt_3 203 (by decide +kernel) rfl
theorem bw_1129 : Cond.instanceMethod yX9_digest ∈ bigw := lt_3 204 (by decide +kernel) rfl
theorem bw_1130 : Cond.selects RX9 yX9_digest yX9_digest ∈ bigw := lt_3 205 (by decide +kernel) rfl
theorem bw_1131 : Cond.code yX10_digest cX10_digest 4 (some .long) ∈ bigw := lt_6 44 (by decide +kernel) rfl
theorem bw_1132 : Cond.methodLink RL 168 yX10_digest ∈ bigw := lt_6 41 (by decide +kernel) rfl
theorem bw_1133 : Cond.instanceMethod yX10_digest ∈ bigw := lt_6 42 (by decide +kernel) rfl
theorem bw_1134 : Cond.selects RX10 yX10_digest yX10_digest ∈ bigw := lt_6 43 (by decide +kernel) rfl
theorem cv_L_13 : am_Cv RL 13 RX9 yX9_type cX9_type 4 (some .int) 2 := ⟨bg_V bw_903 bw_904 bw_905 bw_1 bw_902, by decide +kernel⟩
theorem cv_L_17 : am_Cv RL 17 RX10 yX10_type cX10_type 3 (some .int) 2 := ⟨bg_V bw_907 bw_908 bw_909 bw_498 bw_906, by decide +kernel⟩
theorem cv_L_18 : am_Cv RL 18 RX9 yX9_wipe cX9_wipe 4 (some .int) 1 := ⟨bg_V bw_911 bw_912 bw_913 bw_1 bw_910, by decide +kernel⟩
theorem cv_L_22 : am_Cv RL 22 RX10 yX10_wipe cX10_wipe 3 (some .int) 1 := ⟨bg_V bw_915 bw_916 bw_917 bw_498 bw_914, by decide +kernel⟩
theorem cv_L_23 : am_Cv RL 23 RX9 yX9_undo cX9_undo 3 (some .int) 1 := ⟨bg_V bw_919 bw_920 bw_921 bw_1 bw_918, by decide +kernel⟩
theorem cv_L_26 : am_Cv RL 26 RX10 yX10_undo cX10_undo 2 (some .int) 1 := ⟨bg_V bw_923 bw_924 bw_925 bw_498 bw_922, by decide +kernel⟩
theorem cv_L_27 : am_Cv RL 27 RX9 yX9_fault cX9_fault 2 (some .int) 1 := ⟨bg_V bw_926 bw_415 bw_416 bw_1 bw_413, by decide +kernel⟩
theorem cv_L_30 : am_Cv RL 30 RX10 yX10_fault cX10_fault 2 (some .int) 1 := ⟨bg_V bw_928 bw_929 bw_930 bw_498 bw_927, by decide +kernel⟩
theorem cv_L_31 : am_Cv RL 31 RX9 yX9_gone cX9_gone 3 (some .int) 2 := ⟨bg_V bw_931 bw_443 bw_444 bw_1 bw_441, by decide +kernel⟩
theorem cv_L_34 : am_Cv RL 34 RX10 yX10_gone cX10_gone 3 (some .int) 2 := ⟨bg_V bw_933 bw_934 bw_935 bw_498 bw_932, by decide +kernel⟩
theorem cv_L_35 : am_Cv RL 35 RX9 yX9_need cX9_need 3 (some .int) 2 := ⟨bg_V bw_936 bw_435 bw_436 bw_1 bw_433, by decide +kernel⟩
theorem cv_L_38 : am_Cv RL 38 RX10 yX10_need cX10_need 3 (some .int) 2 := ⟨bg_V bw_938 bw_939 bw_940 bw_498 bw_937, by decide +kernel⟩
theorem cv_L_39 : am_Cv RL 39 RX9 yX9_event cX9_event 4 (some .int) 3 := ⟨bg_V bw_941 bw_151 bw_152 bw_1 bw_149, by decide +kernel⟩
theorem cv_L_43 : am_Cv RL 43 RX10 yX10_event cX10_event 4 (some .int) 3 := ⟨bg_V bw_942 bw_633 bw_634 bw_498 bw_631, by decide +kernel⟩
theorem cv_L_44 : am_Cv RL 44 RX9 yX9_back cX9_back 1 (some .int) 0 := ⟨bg_V bw_944 bw_945 bw_946 bw_1 bw_943, by decide +kernel⟩
theorem cv_L_48 : am_Cv RL 48 RX10 yX10_back cX10_back 1 (some .int) 0 := ⟨bg_V bw_948 bw_949 bw_950 bw_498 bw_947, by decide +kernel⟩
theorem cv_L_49 : am_Cv RL 49 RX9 yX9_read cX9_read 5 (some .int) 1 := ⟨bg_V bw_952 bw_953 bw_954 bw_1 bw_951, by decide +kernel⟩
theorem cv_L_52 : am_Cv RL 52 RX10 yX10_read cX10_read 4 (some .int) 1 := ⟨bg_V bw_956 bw_957 bw_958 bw_498 bw_955, by decide +kernel⟩
theorem cv_L_53 : am_Cv RL 53 RX9 yX9_at cX9_at 5 (some .int) 3 := ⟨bg_V bw_959 bw_451 bw_452 bw_1 bw_449, by decide +kernel⟩
theorem cv_L_56 : am_Cv RL 56 RX10 yX10_at cX10_at 4 (some .int) 3 := ⟨bg_V bw_961 bw_962 bw_963 bw_498 bw_960, by decide +kernel⟩
theorem cv_L_57 : am_Cv RL 57 RX9 yX9_field cX9_field 6 (some .int) 3 := ⟨bg_V bw_965 bw_966 bw_967 bw_1 bw_964, by decide +kernel⟩
theorem cv_L_60 : am_Cv RL 60 RX10 yX10_field cX10_field 4 (some .int) 3 := ⟨bg_V bw_969 bw_970 bw_971 bw_498 bw_968, by decide +kernel⟩
theorem cv_L_61 : am_Cv RL 61 RX9 yX9_up cX9_up 4 (some .int) 2 := ⟨bg_V bw_972 bw_467 bw_468 bw_1 bw_465, by decide +kernel⟩
theorem cv_L_64 : am_Cv RL 64 RX10 yX10_up cX10_up 3 (some .int) 2 := ⟨bg_V bw_974 bw_975 bw_976 bw_498 bw_973, by decide +kernel⟩
theorem cv_L_65 : am_Cv RL 65 RX9 yX9_met cX9_met 2 (some .int) 1 := ⟨bg_V bw_977 bw_427 bw_428 bw_1 bw_425, by decide +kernel⟩
theorem cv_L_68 : am_Cv RL 68 RX10 yX10_met cX10_met 2 (some .int) 1 := ⟨bg_V bw_979 bw_980 bw_981 bw_498 bw_978, by decide +kernel⟩
theorem cv_L_69 : am_Cv RL 69 RX9 yX9_stood cX9_stood 2 (some .int) 1 := ⟨bg_V bw_982 bw_447 bw_448 bw_1 bw_445, by decide +kernel⟩
theorem cv_L_72 : am_Cv RL 72 RX10 yX10_stood cX10_stood 2 (some .int) 1 := ⟨bg_V bw_984 bw_985 bw_986 bw_498 bw_983, by decide +kernel⟩
theorem cv_L_73 : am_Cv RL 73 RX9 yX9_wrongly cX9_wrongly 1 (some .int) 0 := ⟨bg_V bw_988 bw_989 bw_990 bw_1 bw_987, by decide +kernel⟩
theorem cv_L_76 : am_Cv RL 76 RX10 yX10_wrongly cX10_wrongly 1 (some .int) 0 := ⟨bg_V bw_992 bw_993 bw_994 bw_498 bw_991, by decide +kernel⟩
theorem cv_L_77 : am_Cv RL 77 RX9 yX9_first cX9_first 3 (some .int) 1 := ⟨bg_V bw_995 bw_471 bw_472 bw_1 bw_469, by decide +kernel⟩
theorem cv_L_80 : am_Cv RL 80 RX10 yX10_first cX10_first 2 (some .int) 1 := ⟨bg_V bw_997 bw_998 bw_999 bw_498 bw_996, by decide +kernel⟩
theorem cv_L_81 : am_Cv RL 81 RX9 yX9_gate cX9_gate 5 (some .int) 0 := ⟨bg_V bw_1000 bw_475 bw_476 bw_1 bw_473, by decide +kernel⟩
theorem cv_L_84 : am_Cv RL 84 RX10 yX10_gate cX10_gate 1 (some .int) 0 := ⟨bg_V bw_1002 bw_1003 bw_1004 bw_498 bw_1001, by decide +kernel⟩
theorem cv_L_85 : am_Cv RL 85 RX9 yX9_rest cX9_rest 4 (some .int) 0 := ⟨bg_V bw_1005 bw_479 bw_480 bw_1 bw_477, by decide +kernel⟩
theorem cv_L_88 : am_Cv RL 88 RX10 yX10_rest cX10_rest 1 (some .int) 0 := ⟨bg_V bw_1007 bw_1008 bw_1009 bw_498 bw_1006, by decide +kernel⟩
theorem cv_L_89 : am_Cv RL 89 RX9 yX9_plough cX9_plough 4 (some .int) 2 := ⟨bg_V bw_1010 bw_483 bw_484 bw_1 bw_481, by decide +kernel⟩
theorem cv_L_92 : am_Cv RL 92 RX10 yX10_plough cX10_plough 3 (some .int) 2 := ⟨bg_V bw_1012 bw_1013 bw_1014 bw_498 bw_1011, by decide +kernel⟩
theorem cv_L_93 : am_Cv RL 93 RX9 yX9_lie cX9_lie 3 (some .int) 2 := ⟨bg_V bw_1016 bw_1017 bw_1018 bw_1 bw_1015, by decide +kernel⟩
theorem cv_L_96 : am_Cv RL 96 RX10 yX10_lie cX10_lie 3 (some .int) 2 := ⟨bg_V bw_1020 bw_1021 bw_1022 bw_498 bw_1019, by decide +kernel⟩
theorem cv_L_97 : am_Cv RL 97 RX9 yX9_when cX9_when 4 (some .int) 2 := ⟨bg_V bw_1024 bw_1025 bw_1026 bw_1 bw_1023, by decide +kernel⟩
theorem cv_L_100 : am_Cv RL 100 RX10 yX10_when cX10_when 3 (some .int) 2 := ⟨bg_V bw_1028 bw_1029 bw_1030 bw_498 bw_1027, by decide +kernel⟩
theorem cv_L_101 : am_Cv RL 101 RX9 yX9_spare cX9_spare 3 (some .int) 1 := ⟨bg_V bw_1031 bw_487 bw_488 bw_1 bw_485, by decide +kernel⟩
theorem cv_L_104 : am_Cv RL 104 RX10 yX10_spare cX10_spare 2 (some .int) 1 := ⟨bg_V bw_1033 bw_1034 bw_1035 bw_498 bw_1032, by decide +kernel⟩
theorem cv_L_105 : am_Cv RL 105 RX9 yX9_seen cX9_seen 4 (some .int) 3 := ⟨bg_V bw_1037 bw_1038 bw_1039 bw_1 bw_1036, by decide +kernel⟩
theorem cv_L_108 : am_Cv RL 108 RX10 yX10_seen cX10_seen 4 (some .int) 3 := ⟨bg_V bw_1041 bw_1042 bw_1043 bw_498 bw_1040, by decide +kernel⟩
theorem cv_L_109 : am_Cv RL 109 RX9 yX9_forget cX9_forget 2 (some .int) 0 := ⟨bg_V bw_1045 bw_1046 bw_1047 bw_1 bw_1044, by decide +kernel⟩
theorem cv_L_112 : am_Cv RL 112 RX10 yX10_forget cX10_forget 2 (some .int) 0 := ⟨bg_V bw_1049 bw_1050 bw_1051 bw_498 bw_1048, by decide +kernel⟩
theorem cv_L_113 : am_Cv RL 113 RX9 yX9_never cX9_never 3 (some .int) 0 := ⟨bg_V bw_1052 bw_491 bw_492 bw_1 bw_489, by decide +kernel⟩
theorem cv_L_116 : am_Cv RL 116 RX10 yX10_never cX10_never 1 (some .int) 0 := ⟨bg_V bw_1054 bw_1055 bw_1056 bw_498 bw_1053, by decide +kernel⟩
theorem cv_L_117 : am_Cv RL 117 RX9 yX9_was cX9_was 3 (some .int) 2 := ⟨bg_V bw_1057 bw_455 bw_456 bw_1 bw_453, by decide +kernel⟩
theorem cv_L_120 : am_Cv RL 120 RX10 yX10_was cX10_was 3 (some .int) 2 := ⟨bg_V bw_1059 bw_1060 bw_1061 bw_498 bw_1058, by decide +kernel⟩
theorem cv_L_121 : am_Cv RL 121 RX9 yX9_ask cX9_ask 7 (some .int) 1 := ⟨bg_V bw_1062 bw_459 bw_460 bw_1 bw_457, by decide +kernel⟩
theorem cv_L_124 : am_Cv RL 124 RX10 yX10_ask cX10_ask 2 (some .int) 1 := ⟨bg_V bw_1064 bw_1065 bw_1066 bw_498 bw_1063, by decide +kernel⟩
theorem cv_L_125 : am_Cv RL 125 RX9 yX9_chance cX9_chance 4 (some .long) 3 := ⟨bg_V bw_1067 bw_431 bw_432 bw_1 bw_429, by decide +kernel⟩
theorem cv_L_129 : am_Cv RL 129 RX10 yX10_chance cX10_chance 4 (some .long) 3 := ⟨bg_V bw_1069 bw_1070 bw_1071 bw_498 bw_1068, by decide +kernel⟩
theorem cv_L_130 : am_Cv RL 130 RX9 yX9_years cX9_years 4 (some .int) 3 := ⟨bg_V bw_1072 bw_495 bw_496 bw_1 bw_493, by decide +kernel⟩
theorem cv_L_133 : am_Cv RL 133 RX10 yX10_years cX10_years 4 (some .int) 3 := ⟨bg_V bw_1074 bw_1075 bw_1076 bw_498 bw_1073, by decide +kernel⟩
theorem cv_L_134 : am_Cv RL 134 RX9 yX9_sheet cX9_sheet 4 (some .int) 3 := ⟨bg_V bw_1078 bw_1079 bw_1080 bw_1 bw_1077, by decide +kernel⟩
theorem cv_L_137 : am_Cv RL 137 RX10 yX10_sheet cX10_sheet 5 (some .int) 3 := ⟨bg_V bw_1082 bw_1083 bw_1084 bw_498 bw_1081, by decide +kernel⟩
theorem cv_L_138 : am_Cv RL 138 RX9 yX9_lose cX9_lose 4 (some .int) 1 := ⟨bg_V bw_1086 bw_1087 bw_1088 bw_1 bw_1085, by decide +kernel⟩
theorem cv_L_141 : am_Cv RL 141 RX10 yX10_lose cX10_lose 2 (some .int) 1 := ⟨bg_V bw_1090 bw_1091 bw_1092 bw_498 bw_1089, by decide +kernel⟩
theorem cv_L_142 : am_Cv RL 142 RX9 yX9_put cX9_put 6 (some .int) 4 := ⟨bg_V bw_1094 bw_1095 bw_1096 bw_1 bw_1093, by decide +kernel⟩
theorem cv_L_146 : am_Cv RL 146 RX10 yX10_put cX10_put 6 (some .int) 4 := ⟨bg_V bw_1098 bw_1099 bw_1100 bw_498 bw_1097, by decide +kernel⟩
theorem cv_L_147 : am_Cv RL 147 RX9 yX9_get cX9_get 4 (some .int) 3 := ⟨bg_V bw_1102 bw_1103 bw_1104 bw_1 bw_1101, by decide +kernel⟩
theorem cv_L_150 : am_Cv RL 150 RX10 yX10_get cX10_get 5 (some .int) 3 := ⟨bg_V bw_1106 bw_1107 bw_1108 bw_498 bw_1105, by decide +kernel⟩
theorem cv_L_151 : am_Cv RL 151 RX9 yX9_copy cX9_copy 8 (some .int) 5 := ⟨bg_V bw_1110 bw_1111 bw_1112 bw_1 bw_1109, by decide +kernel⟩
theorem cv_L_155 : am_Cv RL 155 RX10 yX10_copy cX10_copy 7 (some .int) 5 := ⟨bg_V bw_1114 bw_1115 bw_1116 bw_498 bw_1113, by decide +kernel⟩
theorem cv_L_156 : am_Cv RL 156 RX9 yX9_write cX9_write 7 (some .int) 2 := ⟨bg_V bw_1118 bw_1119 bw_1120 bw_1 bw_1117, by decide +kernel⟩
theorem cv_L_159 : am_Cv RL 159 RX10 yX10_write cX10_write 4 (some .int) 2 := ⟨bg_V bw_1122 bw_1123 bw_1124 bw_498 bw_1121, by decide +kernel⟩
theorem cv_L_160 : am_Cv RL 160 RX9 yX9_count cX9_count 2 (some .int) 1 := ⟨bg_V bw_1125 bw_423 bw_424 bw_1 bw_421, by decide +kernel⟩
theorem cv_L_163 : am_Cv RL 163 RX10 yX10_count cX10_count 2 (some .int) 1 := ⟨bg_V bw_1126 bw_834 bw_835 bw_498 bw_832, by decide +kernel⟩
theorem cv_L_164 : am_Cv RL 164 RX9 yX9_digest cX9_digest 5 (some .long) 0 := ⟨bg_V bw_1128 bw_1129 bw_1130 bw_1 bw_1127, by decide +kernel⟩
theorem cv_L_168 : am_Cv RL 168 RX10 yX10_digest cX10_digest 4 (some .long) 0 := ⟨bg_V bw_1132 bw_1133 bw_1134 bw_498 bw_1131, by decide +kernel⟩
def f_law_0 (xs : Nat → Int32) (L : Nat) (k : Sg → Sg → Int32 → Option Unit) (σ τ : Sg) (x3 : Int32) : Option Unit :=
  gd (inB (x3 + (1 : Int32)) L) (gd (inB (x3 + (2 : Int32)) L) (bnd (f_X9_type σ (xs ((x3 + (1 : Int32))).toNatClampNeg) (xs ((x3 + (2 : Int32))).toNatClampNeg)) (fun r1 σ2 => gd (inB (x3 + (1 : Int32)) L) (gd (inB (x3 + (2 : Int32)) L) (bnd (f_X10_type τ (xs ((x3 + (1 : Int32))).toNatClampNeg) (xs ((x3 + (2 : Int32))).toNatClampNeg)) (fun r4 τ5 => (if r1 = r4 then (k σ2 τ5 (x3 + (6 : Int32))) else none)))))))
def f_law_1 (xs : Nat → Int32) (L : Nat) (k : Sg → Sg → Int32 → Option Unit) (σ τ : Sg) (x3 : Int32) : Option Unit :=
  gd (inB (x3 + (1 : Int32)) L) (bnd (f_X9_wipe σ (xs ((x3 + (1 : Int32))).toNatClampNeg)) (fun r1 σ2 => gd (inB (x3 + (1 : Int32)) L) (bnd (f_X10_wipe τ (xs ((x3 + (1 : Int32))).toNatClampNeg)) (fun r4 τ5 => (if r1 = r4 then (k σ2 τ5 (x3 + (6 : Int32))) else none)))))
def f_law_2 (xs : Nat → Int32) (L : Nat) (k : Sg → Sg → Int32 → Option Unit) (σ τ : Sg) (x3 : Int32) : Option Unit :=
  gd (inB (x3 + (1 : Int32)) L) (bnd (f_X9_undo σ (xs ((x3 + (1 : Int32))).toNatClampNeg)) (fun r1 σ2 => gd (inB (x3 + (1 : Int32)) L) (bnd (f_X10_undo τ (xs ((x3 + (1 : Int32))).toNatClampNeg)) (fun r4 τ5 => (if r1 = r4 then (k σ2 τ5 (x3 + (6 : Int32))) else none)))))
def f_law_3 (xs : Nat → Int32) (L : Nat) (k : Sg → Sg → Int32 → Option Unit) (σ τ : Sg) (x3 : Int32) : Option Unit :=
  gd (inB (x3 + (1 : Int32)) L) (bnd (f_X9_fault σ (xs ((x3 + (1 : Int32))).toNatClampNeg)) (fun r1 σ2 => gd (inB (x3 + (1 : Int32)) L) (bnd (f_X10_fault τ (xs ((x3 + (1 : Int32))).toNatClampNeg)) (fun r4 τ5 => (if r1 = r4 then (k σ2 τ5 (x3 + (6 : Int32))) else none)))))
def f_law_4 (xs : Nat → Int32) (L : Nat) (k : Sg → Sg → Int32 → Option Unit) (σ τ : Sg) (x3 : Int32) : Option Unit :=
  gd (inB (x3 + (1 : Int32)) L) (gd (inB (x3 + (2 : Int32)) L) (bnd (f_X9_gone σ (xs ((x3 + (1 : Int32))).toNatClampNeg) (xs ((x3 + (2 : Int32))).toNatClampNeg)) (fun r1 σ2 => gd (inB (x3 + (1 : Int32)) L) (gd (inB (x3 + (2 : Int32)) L) (bnd (f_X10_gone τ (xs ((x3 + (1 : Int32))).toNatClampNeg) (xs ((x3 + (2 : Int32))).toNatClampNeg)) (fun r4 τ5 => (if r1 = r4 then (k σ2 τ5 (x3 + (6 : Int32))) else none)))))))
def f_law_5 (xs : Nat → Int32) (L : Nat) (k : Sg → Sg → Int32 → Option Unit) (σ τ : Sg) (x3 : Int32) : Option Unit :=
  gd (inB (x3 + (1 : Int32)) L) (gd (inB (x3 + (2 : Int32)) L) (bnd (f_X9_need σ (xs ((x3 + (1 : Int32))).toNatClampNeg) (xs ((x3 + (2 : Int32))).toNatClampNeg)) (fun r1 σ2 => gd (inB (x3 + (1 : Int32)) L) (gd (inB (x3 + (2 : Int32)) L) (bnd (f_X10_need τ (xs ((x3 + (1 : Int32))).toNatClampNeg) (xs ((x3 + (2 : Int32))).toNatClampNeg)) (fun r4 τ5 => (if r1 = r4 then (k σ2 τ5 (x3 + (6 : Int32))) else none)))))))
def f_law_6 (xs : Nat → Int32) (L : Nat) (k : Sg → Sg → Int32 → Option Unit) (σ τ : Sg) (x3 : Int32) : Option Unit :=
  gd (inB (x3 + (1 : Int32)) L) (gd (inB (x3 + (2 : Int32)) L) (gd (inB (x3 + (3 : Int32)) L) (bnd (f_X9_event σ (xs ((x3 + (1 : Int32))).toNatClampNeg) (xs ((x3 + (2 : Int32))).toNatClampNeg) (xs ((x3 + (3 : Int32))).toNatClampNeg)) (fun r1 σ2 => gd (inB (x3 + (1 : Int32)) L) (gd (inB (x3 + (2 : Int32)) L) (gd (inB (x3 + (3 : Int32)) L) (bnd (f_X10_event τ (xs ((x3 + (1 : Int32))).toNatClampNeg) (xs ((x3 + (2 : Int32))).toNatClampNeg) (xs ((x3 + (3 : Int32))).toNatClampNeg)) (fun r4 τ5 => (if r1 = r4 then (k σ2 τ5 (x3 + (6 : Int32))) else none)))))))))
def f_law_7 (xs : Nat → Int32) (L : Nat) (k : Sg → Sg → Int32 → Option Unit) (σ τ : Sg) (x3 : Int32) : Option Unit :=
  bnd (f_X9_back σ) (fun r1 σ2 => bnd (f_X10_back τ) (fun r4 τ5 => (if r1 = r4 then (k σ2 τ5 (x3 + (6 : Int32))) else none)))
def f_law_8 (xs : Nat → Int32) (L : Nat) (k : Sg → Sg → Int32 → Option Unit) (σ τ : Sg) (x3 : Int32) : Option Unit :=
  gd (inB (x3 + (1 : Int32)) L) (bnd (f_X9_read σ (xs ((x3 + (1 : Int32))).toNatClampNeg)) (fun r1 σ2 => gd (inB (x3 + (1 : Int32)) L) (bnd (f_X10_read τ (xs ((x3 + (1 : Int32))).toNatClampNeg)) (fun r4 τ5 => (if r1 = r4 then (k σ2 τ5 (x3 + (6 : Int32))) else none)))))
def f_law_9 (xs : Nat → Int32) (L : Nat) (k : Sg → Sg → Int32 → Option Unit) (σ τ : Sg) (x3 : Int32) : Option Unit :=
  gd (inB (x3 + (1 : Int32)) L) (gd (inB (x3 + (2 : Int32)) L) (gd (inB (x3 + (3 : Int32)) L) (bnd (f_X9_at σ (xs ((x3 + (1 : Int32))).toNatClampNeg) (xs ((x3 + (2 : Int32))).toNatClampNeg) (xs ((x3 + (3 : Int32))).toNatClampNeg)) (fun r1 σ2 => gd (inB (x3 + (1 : Int32)) L) (gd (inB (x3 + (2 : Int32)) L) (gd (inB (x3 + (3 : Int32)) L) (bnd (f_X10_at τ (xs ((x3 + (1 : Int32))).toNatClampNeg) (xs ((x3 + (2 : Int32))).toNatClampNeg) (xs ((x3 + (3 : Int32))).toNatClampNeg)) (fun r4 τ5 => (if r1 = r4 then (k σ2 τ5 (x3 + (6 : Int32))) else none)))))))))
def f_law_10 (xs : Nat → Int32) (L : Nat) (k : Sg → Sg → Int32 → Option Unit) (σ τ : Sg) (x3 : Int32) : Option Unit :=
  gd (inB (x3 + (1 : Int32)) L) (gd (inB (x3 + (2 : Int32)) L) (gd (inB (x3 + (3 : Int32)) L) (bnd (f_X9_field σ (xs ((x3 + (1 : Int32))).toNatClampNeg) (xs ((x3 + (2 : Int32))).toNatClampNeg) (xs ((x3 + (3 : Int32))).toNatClampNeg)) (fun r1 σ2 => gd (inB (x3 + (1 : Int32)) L) (gd (inB (x3 + (2 : Int32)) L) (gd (inB (x3 + (3 : Int32)) L) (bnd (f_X10_field τ (xs ((x3 + (1 : Int32))).toNatClampNeg) (xs ((x3 + (2 : Int32))).toNatClampNeg) (xs ((x3 + (3 : Int32))).toNatClampNeg)) (fun r4 τ5 => (if r1 = r4 then (k σ2 τ5 (x3 + (6 : Int32))) else none)))))))))
def f_law_11 (xs : Nat → Int32) (L : Nat) (k : Sg → Sg → Int32 → Option Unit) (σ τ : Sg) (x3 : Int32) : Option Unit :=
  gd (inB (x3 + (1 : Int32)) L) (gd (inB (x3 + (2 : Int32)) L) (bnd (f_X9_up σ (xs ((x3 + (1 : Int32))).toNatClampNeg) (xs ((x3 + (2 : Int32))).toNatClampNeg)) (fun r1 σ2 => gd (inB (x3 + (1 : Int32)) L) (gd (inB (x3 + (2 : Int32)) L) (bnd (f_X10_up τ (xs ((x3 + (1 : Int32))).toNatClampNeg) (xs ((x3 + (2 : Int32))).toNatClampNeg)) (fun r4 τ5 => (if r1 = r4 then (k σ2 τ5 (x3 + (6 : Int32))) else none)))))))
def f_law_12 (xs : Nat → Int32) (L : Nat) (k : Sg → Sg → Int32 → Option Unit) (σ τ : Sg) (x3 : Int32) : Option Unit :=
  gd (inB (x3 + (1 : Int32)) L) (bnd (f_X9_met σ (xs ((x3 + (1 : Int32))).toNatClampNeg)) (fun r1 σ2 => gd (inB (x3 + (1 : Int32)) L) (bnd (f_X10_met τ (xs ((x3 + (1 : Int32))).toNatClampNeg)) (fun r4 τ5 => (if r1 = r4 then (k σ2 τ5 (x3 + (6 : Int32))) else none)))))
def f_law_13 (xs : Nat → Int32) (L : Nat) (k : Sg → Sg → Int32 → Option Unit) (σ τ : Sg) (x3 : Int32) : Option Unit :=
  gd (inB (x3 + (1 : Int32)) L) (bnd (f_X9_stood σ (xs ((x3 + (1 : Int32))).toNatClampNeg)) (fun r1 σ2 => gd (inB (x3 + (1 : Int32)) L) (bnd (f_X10_stood τ (xs ((x3 + (1 : Int32))).toNatClampNeg)) (fun r4 τ5 => (if r1 = r4 then (k σ2 τ5 (x3 + (6 : Int32))) else none)))))
def f_law_14 (xs : Nat → Int32) (L : Nat) (k : Sg → Sg → Int32 → Option Unit) (σ τ : Sg) (x3 : Int32) : Option Unit :=
  bnd (f_X9_wrongly σ) (fun r1 σ2 => bnd (f_X10_wrongly τ) (fun r4 τ5 => (if r1 = r4 then (k σ2 τ5 (x3 + (6 : Int32))) else none)))
def f_law_15 (xs : Nat → Int32) (L : Nat) (k : Sg → Sg → Int32 → Option Unit) (σ τ : Sg) (x3 : Int32) : Option Unit :=
  gd (inB (x3 + (1 : Int32)) L) (bnd (f_X9_first σ (xs ((x3 + (1 : Int32))).toNatClampNeg)) (fun r1 σ2 => gd (inB (x3 + (1 : Int32)) L) (bnd (f_X10_first τ (xs ((x3 + (1 : Int32))).toNatClampNeg)) (fun r4 τ5 => (if r1 = r4 then (k σ2 τ5 (x3 + (6 : Int32))) else none)))))
def f_law_16 (xs : Nat → Int32) (L : Nat) (k : Sg → Sg → Int32 → Option Unit) (σ τ : Sg) (x3 : Int32) : Option Unit :=
  bnd (f_X9_gate σ) (fun r1 σ2 => bnd (f_X10_gate τ) (fun r4 τ5 => (if r1 = r4 then (k σ2 τ5 (x3 + (6 : Int32))) else none)))
def f_law_17 (xs : Nat → Int32) (L : Nat) (k : Sg → Sg → Int32 → Option Unit) (σ τ : Sg) (x3 : Int32) : Option Unit :=
  bnd (f_X9_rest σ) (fun r1 σ2 => bnd (f_X10_rest τ) (fun r4 τ5 => (if r1 = r4 then (k σ2 τ5 (x3 + (6 : Int32))) else none)))
def f_law_18 (xs : Nat → Int32) (L : Nat) (k : Sg → Sg → Int32 → Option Unit) (σ τ : Sg) (x3 : Int32) : Option Unit :=
  gd (inB (x3 + (1 : Int32)) L) (gd (inB (x3 + (2 : Int32)) L) (bnd (f_X9_plough σ (xs ((x3 + (1 : Int32))).toNatClampNeg) (xs ((x3 + (2 : Int32))).toNatClampNeg)) (fun r1 σ2 => gd (inB (x3 + (1 : Int32)) L) (gd (inB (x3 + (2 : Int32)) L) (bnd (f_X10_plough τ (xs ((x3 + (1 : Int32))).toNatClampNeg) (xs ((x3 + (2 : Int32))).toNatClampNeg)) (fun r4 τ5 => (if r1 = r4 then (k σ2 τ5 (x3 + (6 : Int32))) else none)))))))
def f_law_19 (xs : Nat → Int32) (L : Nat) (k : Sg → Sg → Int32 → Option Unit) (σ τ : Sg) (x3 : Int32) : Option Unit :=
  gd (inB (x3 + (1 : Int32)) L) (gd (inB (x3 + (2 : Int32)) L) (bnd (f_X9_lie σ (xs ((x3 + (1 : Int32))).toNatClampNeg) (xs ((x3 + (2 : Int32))).toNatClampNeg)) (fun r1 σ2 => gd (inB (x3 + (1 : Int32)) L) (gd (inB (x3 + (2 : Int32)) L) (bnd (f_X10_lie τ (xs ((x3 + (1 : Int32))).toNatClampNeg) (xs ((x3 + (2 : Int32))).toNatClampNeg)) (fun r4 τ5 => (if r1 = r4 then (k σ2 τ5 (x3 + (6 : Int32))) else none)))))))
def f_law_20 (xs : Nat → Int32) (L : Nat) (k : Sg → Sg → Int32 → Option Unit) (σ τ : Sg) (x3 : Int32) : Option Unit :=
  gd (inB (x3 + (1 : Int32)) L) (gd (inB (x3 + (2 : Int32)) L) (bnd (f_X9_when σ (xs ((x3 + (1 : Int32))).toNatClampNeg) (xs ((x3 + (2 : Int32))).toNatClampNeg)) (fun r1 σ2 => gd (inB (x3 + (1 : Int32)) L) (gd (inB (x3 + (2 : Int32)) L) (bnd (f_X10_when τ (xs ((x3 + (1 : Int32))).toNatClampNeg) (xs ((x3 + (2 : Int32))).toNatClampNeg)) (fun r4 τ5 => (if r1 = r4 then (k σ2 τ5 (x3 + (6 : Int32))) else none)))))))
def f_law_21 (xs : Nat → Int32) (L : Nat) (k : Sg → Sg → Int32 → Option Unit) (σ τ : Sg) (x3 : Int32) : Option Unit :=
  gd (inB (x3 + (1 : Int32)) L) (bnd (f_X9_spare σ (xs ((x3 + (1 : Int32))).toNatClampNeg)) (fun r1 σ2 => gd (inB (x3 + (1 : Int32)) L) (bnd (f_X10_spare τ (xs ((x3 + (1 : Int32))).toNatClampNeg)) (fun r4 τ5 => (if r1 = r4 then (k σ2 τ5 (x3 + (6 : Int32))) else none)))))
def f_law_22 (xs : Nat → Int32) (L : Nat) (k : Sg → Sg → Int32 → Option Unit) (σ τ : Sg) (x3 : Int32) : Option Unit :=
  gd (inB (x3 + (1 : Int32)) L) (gd (inB (x3 + (2 : Int32)) L) (gd (inB (x3 + (3 : Int32)) L) (bnd (f_X9_seen σ (xs ((x3 + (1 : Int32))).toNatClampNeg) (xs ((x3 + (2 : Int32))).toNatClampNeg) (xs ((x3 + (3 : Int32))).toNatClampNeg)) (fun r1 σ2 => gd (inB (x3 + (1 : Int32)) L) (gd (inB (x3 + (2 : Int32)) L) (gd (inB (x3 + (3 : Int32)) L) (bnd (f_X10_seen τ (xs ((x3 + (1 : Int32))).toNatClampNeg) (xs ((x3 + (2 : Int32))).toNatClampNeg) (xs ((x3 + (3 : Int32))).toNatClampNeg)) (fun r4 τ5 => (if r1 = r4 then (k σ2 τ5 (x3 + (6 : Int32))) else none)))))))))
def f_law_23 (xs : Nat → Int32) (L : Nat) (k : Sg → Sg → Int32 → Option Unit) (σ τ : Sg) (x3 : Int32) : Option Unit :=
  bnd (f_X9_forget σ) (fun r1 σ2 => bnd (f_X10_forget τ) (fun r4 τ5 => (if r1 = r4 then (k σ2 τ5 (x3 + (6 : Int32))) else none)))
def f_law_24 (xs : Nat → Int32) (L : Nat) (k : Sg → Sg → Int32 → Option Unit) (σ τ : Sg) (x3 : Int32) : Option Unit :=
  bnd (f_X9_never σ) (fun r1 σ2 => bnd (f_X10_never τ) (fun r4 τ5 => (if r1 = r4 then (k σ2 τ5 (x3 + (6 : Int32))) else none)))
def f_law_25 (xs : Nat → Int32) (L : Nat) (k : Sg → Sg → Int32 → Option Unit) (σ τ : Sg) (x3 : Int32) : Option Unit :=
  gd (inB (x3 + (1 : Int32)) L) (gd (inB (x3 + (2 : Int32)) L) (bnd (f_X9_was σ (xs ((x3 + (1 : Int32))).toNatClampNeg) (xs ((x3 + (2 : Int32))).toNatClampNeg)) (fun r1 σ2 => gd (inB (x3 + (1 : Int32)) L) (gd (inB (x3 + (2 : Int32)) L) (bnd (f_X10_was τ (xs ((x3 + (1 : Int32))).toNatClampNeg) (xs ((x3 + (2 : Int32))).toNatClampNeg)) (fun r4 τ5 => (if r1 = r4 then (k σ2 τ5 (x3 + (6 : Int32))) else none)))))))
def f_law_26 (xs : Nat → Int32) (L : Nat) (k : Sg → Sg → Int32 → Option Unit) (σ τ : Sg) (x3 : Int32) : Option Unit :=
  gd (inB (x3 + (1 : Int32)) L) (bnd (f_X9_ask σ (xs ((x3 + (1 : Int32))).toNatClampNeg)) (fun r1 σ2 => gd (inB (x3 + (1 : Int32)) L) (bnd (f_X10_ask τ (xs ((x3 + (1 : Int32))).toNatClampNeg)) (fun r4 τ5 => (if r1 = r4 then (k σ2 τ5 (x3 + (6 : Int32))) else none)))))
def f_law_27 (xs : Nat → Int32) (L : Nat) (k : Sg → Sg → Int32 → Option Unit) (σ τ : Sg) (x3 : Int32) : Option Unit :=
  gd (inB (x3 + (1 : Int32)) L) (gd (inB (x3 + (2 : Int32)) L) (gd (inB (x3 + (3 : Int32)) L) (bnd (f_X9_chance σ (xs ((x3 + (1 : Int32))).toNatClampNeg) (xs ((x3 + (2 : Int32))).toNatClampNeg) (xs ((x3 + (3 : Int32))).toNatClampNeg)) (fun r1 σ2 => gd (inB (x3 + (1 : Int32)) L) (gd (inB (x3 + (2 : Int32)) L) (gd (inB (x3 + (3 : Int32)) L) (bnd (f_X10_chance τ (xs ((x3 + (1 : Int32))).toNatClampNeg) (xs ((x3 + (2 : Int32))).toNatClampNeg) (xs ((x3 + (3 : Int32))).toNatClampNeg)) (fun r4 τ5 => (if r1 = r4 then (k σ2 τ5 (x3 + (6 : Int32))) else none)))))))))
def f_law_28 (xs : Nat → Int32) (L : Nat) (k : Sg → Sg → Int32 → Option Unit) (σ τ : Sg) (x3 : Int32) : Option Unit :=
  gd (inB (x3 + (1 : Int32)) L) (gd (inB (x3 + (2 : Int32)) L) (gd (inB (x3 + (3 : Int32)) L) (bnd (f_X9_years σ (xs ((x3 + (1 : Int32))).toNatClampNeg) (xs ((x3 + (2 : Int32))).toNatClampNeg) (xs ((x3 + (3 : Int32))).toNatClampNeg)) (fun r1 σ2 => gd (inB (x3 + (1 : Int32)) L) (gd (inB (x3 + (2 : Int32)) L) (gd (inB (x3 + (3 : Int32)) L) (bnd (f_X10_years τ (xs ((x3 + (1 : Int32))).toNatClampNeg) (xs ((x3 + (2 : Int32))).toNatClampNeg) (xs ((x3 + (3 : Int32))).toNatClampNeg)) (fun r4 τ5 => (if r1 = r4 then (k σ2 τ5 (x3 + (6 : Int32))) else none)))))))))
def f_law_29 (xs : Nat → Int32) (L : Nat) (k : Sg → Sg → Int32 → Option Unit) (σ τ : Sg) (x3 : Int32) : Option Unit :=
  gd (inB (x3 + (1 : Int32)) L) (gd (inB (x3 + (2 : Int32)) L) (gd (inB (x3 + (3 : Int32)) L) (bnd (f_X9_sheet σ (xs ((x3 + (1 : Int32))).toNatClampNeg) (xs ((x3 + (2 : Int32))).toNatClampNeg) (xs ((x3 + (3 : Int32))).toNatClampNeg)) (fun r1 σ2 => gd (inB (x3 + (1 : Int32)) L) (gd (inB (x3 + (2 : Int32)) L) (gd (inB (x3 + (3 : Int32)) L) (bnd (f_X10_sheet τ (xs ((x3 + (1 : Int32))).toNatClampNeg) (xs ((x3 + (2 : Int32))).toNatClampNeg) (xs ((x3 + (3 : Int32))).toNatClampNeg)) (fun r4 τ5 => (if r1 = r4 then (k σ2 τ5 (x3 + (6 : Int32))) else none)))))))))
def f_law_30 (xs : Nat → Int32) (L : Nat) (k : Sg → Sg → Int32 → Option Unit) (σ τ : Sg) (x3 : Int32) : Option Unit :=
  gd (inB (x3 + (1 : Int32)) L) (bnd (f_X9_lose σ (xs ((x3 + (1 : Int32))).toNatClampNeg)) (fun r1 σ2 => gd (inB (x3 + (1 : Int32)) L) (bnd (f_X10_lose τ (xs ((x3 + (1 : Int32))).toNatClampNeg)) (fun r4 τ5 => (if r1 = r4 then (k σ2 τ5 (x3 + (6 : Int32))) else none)))))
def f_law_31 (xs : Nat → Int32) (L : Nat) (k : Sg → Sg → Int32 → Option Unit) (σ τ : Sg) (x3 : Int32) : Option Unit :=
  gd (inB (x3 + (1 : Int32)) L) (gd (inB (x3 + (2 : Int32)) L) (gd (inB (x3 + (3 : Int32)) L) (gd (inB (x3 + (4 : Int32)) L) (bnd (f_X9_put σ (xs ((x3 + (1 : Int32))).toNatClampNeg) (xs ((x3 + (2 : Int32))).toNatClampNeg) (xs ((x3 + (3 : Int32))).toNatClampNeg) (xs ((x3 + (4 : Int32))).toNatClampNeg)) (fun r1 σ2 => gd (inB (x3 + (1 : Int32)) L) (gd (inB (x3 + (2 : Int32)) L) (gd (inB (x3 + (3 : Int32)) L) (gd (inB (x3 + (4 : Int32)) L) (bnd (f_X10_put τ (xs ((x3 + (1 : Int32))).toNatClampNeg) (xs ((x3 + (2 : Int32))).toNatClampNeg) (xs ((x3 + (3 : Int32))).toNatClampNeg) (xs ((x3 + (4 : Int32))).toNatClampNeg)) (fun r4 τ5 => (if r1 = r4 then (k σ2 τ5 (x3 + (6 : Int32))) else none)))))))))))
def f_law_32 (xs : Nat → Int32) (L : Nat) (k : Sg → Sg → Int32 → Option Unit) (σ τ : Sg) (x3 : Int32) : Option Unit :=
  gd (inB (x3 + (1 : Int32)) L) (gd (inB (x3 + (2 : Int32)) L) (gd (inB (x3 + (3 : Int32)) L) (bnd (f_X9_get σ (xs ((x3 + (1 : Int32))).toNatClampNeg) (xs ((x3 + (2 : Int32))).toNatClampNeg) (xs ((x3 + (3 : Int32))).toNatClampNeg)) (fun r1 σ2 => gd (inB (x3 + (1 : Int32)) L) (gd (inB (x3 + (2 : Int32)) L) (gd (inB (x3 + (3 : Int32)) L) (bnd (f_X10_get τ (xs ((x3 + (1 : Int32))).toNatClampNeg) (xs ((x3 + (2 : Int32))).toNatClampNeg) (xs ((x3 + (3 : Int32))).toNatClampNeg)) (fun r4 τ5 => (if r1 = r4 then (k σ2 τ5 (x3 + (6 : Int32))) else none)))))))))
def f_law_33 (xs : Nat → Int32) (L : Nat) (k : Sg → Sg → Int32 → Option Unit) (σ τ : Sg) (x3 : Int32) : Option Unit :=
  gd (inB (x3 + (1 : Int32)) L) (gd (inB (x3 + (2 : Int32)) L) (gd (inB (x3 + (3 : Int32)) L) (gd (inB (x3 + (4 : Int32)) L) (gd (inB (x3 + (5 : Int32)) L) (bnd (f_X9_copy σ (xs ((x3 + (1 : Int32))).toNatClampNeg) (xs ((x3 + (2 : Int32))).toNatClampNeg) (xs ((x3 + (3 : Int32))).toNatClampNeg) (xs ((x3 + (4 : Int32))).toNatClampNeg) (xs ((x3 + (5 : Int32))).toNatClampNeg)) (fun r1 σ2 => gd (inB (x3 + (1 : Int32)) L) (gd (inB (x3 + (2 : Int32)) L) (gd (inB (x3 + (3 : Int32)) L) (gd (inB (x3 + (4 : Int32)) L) (gd (inB (x3 + (5 : Int32)) L) (bnd (f_X10_copy τ (xs ((x3 + (1 : Int32))).toNatClampNeg) (xs ((x3 + (2 : Int32))).toNatClampNeg) (xs ((x3 + (3 : Int32))).toNatClampNeg) (xs ((x3 + (4 : Int32))).toNatClampNeg) (xs ((x3 + (5 : Int32))).toNatClampNeg)) (fun r4 τ5 => (if r1 = r4 then (k σ2 τ5 (x3 + (6 : Int32))) else none)))))))))))))
def f_law_34 (xs : Nat → Int32) (L : Nat) (k : Sg → Sg → Int32 → Option Unit) (σ τ : Sg) (x3 : Int32) : Option Unit :=
  gd (inB (x3 + (1 : Int32)) L) (gd (inB (x3 + (2 : Int32)) L) (bnd (f_X9_write σ (xs ((x3 + (1 : Int32))).toNatClampNeg) (xs ((x3 + (2 : Int32))).toNatClampNeg)) (fun r1 σ2 => gd (inB (x3 + (1 : Int32)) L) (gd (inB (x3 + (2 : Int32)) L) (bnd (f_X10_write τ (xs ((x3 + (1 : Int32))).toNatClampNeg) (xs ((x3 + (2 : Int32))).toNatClampNeg)) (fun r4 τ5 => (if r1 = r4 then (k σ2 τ5 (x3 + (6 : Int32))) else none)))))))
def f_law_35 (xs : Nat → Int32) (L : Nat) (k : Sg → Sg → Int32 → Option Unit) (σ τ : Sg) (x3 : Int32) : Option Unit :=
  gd (inB (x3 + (1 : Int32)) L) (bnd (f_X9_count σ (xs ((x3 + (1 : Int32))).toNatClampNeg)) (fun r1 σ2 => gd (inB (x3 + (1 : Int32)) L) (bnd (f_X10_count τ (xs ((x3 + (1 : Int32))).toNatClampNeg)) (fun r4 τ5 => (if r1 = r4 then (k σ2 τ5 (x3 + (6 : Int32))) else none)))))
def f_law_36 (xs : Nat → Int32) (L : Nat) (k : Sg → Sg → Int32 → Option Unit) (σ τ : Sg) (x3 : Int32) : Option Unit :=
  bnd (f_X9_digest σ) (fun r1 σ2 => bnd (f_X10_digest τ) (fun r4 τ5 => (if r1 = r4 then (k σ2 τ5 (x3 + (6 : Int32))) else none)))
def f_law_b18 (xs : Nat → Int32) (L : Nat) (k : Sg → Sg → Int32 → Option Unit) (σ τ : Sg) (x3 : Int32) : Option Unit :=
  (if ((nI L) - (6 : Int32)) < x3 then some () else gd (inB x3 L) (if (xs (x3).toNatClampNeg &&& (63 : Int32)) = 0 then f_law_0 xs L k σ τ x3 else (if (xs (x3).toNatClampNeg &&& (63 : Int32)) = 1 then f_law_1 xs L k σ τ x3 else (if (xs (x3).toNatClampNeg &&& (63 : Int32)) = 2 then f_law_2 xs L k σ τ x3 else (if (xs (x3).toNatClampNeg &&& (63 : Int32)) = 3 then f_law_3 xs L k σ τ x3 else (if (xs (x3).toNatClampNeg &&& (63 : Int32)) = 4 then f_law_4 xs L k σ τ x3 else (if (xs (x3).toNatClampNeg &&& (63 : Int32)) = 5 then f_law_5 xs L k σ τ x3 else (if (xs (x3).toNatClampNeg &&& (63 : Int32)) = 6 then f_law_6 xs L k σ τ x3 else (if (xs (x3).toNatClampNeg &&& (63 : Int32)) = 7 then f_law_7 xs L k σ τ x3 else (if (xs (x3).toNatClampNeg &&& (63 : Int32)) = 8 then f_law_8 xs L k σ τ x3 else (if (xs (x3).toNatClampNeg &&& (63 : Int32)) = 9 then f_law_9 xs L k σ τ x3 else (if (xs (x3).toNatClampNeg &&& (63 : Int32)) = 10 then f_law_10 xs L k σ τ x3 else (if (xs (x3).toNatClampNeg &&& (63 : Int32)) = 11 then f_law_11 xs L k σ τ x3 else (if (xs (x3).toNatClampNeg &&& (63 : Int32)) = 12 then f_law_12 xs L k σ τ x3 else (if (xs (x3).toNatClampNeg &&& (63 : Int32)) = 13 then f_law_13 xs L k σ τ x3 else (if (xs (x3).toNatClampNeg &&& (63 : Int32)) = 14 then f_law_14 xs L k σ τ x3 else (if (xs (x3).toNatClampNeg &&& (63 : Int32)) = 15 then f_law_15 xs L k σ τ x3 else (if (xs (x3).toNatClampNeg &&& (63 : Int32)) = 16 then f_law_16 xs L k σ τ x3 else (if (xs (x3).toNatClampNeg &&& (63 : Int32)) = 17 then f_law_17 xs L k σ τ x3 else (if (xs (x3).toNatClampNeg &&& (63 : Int32)) = 18 then f_law_18 xs L k σ τ x3 else (if (xs (x3).toNatClampNeg &&& (63 : Int32)) = 19 then f_law_19 xs L k σ τ x3 else (if (xs (x3).toNatClampNeg &&& (63 : Int32)) = 20 then f_law_20 xs L k σ τ x3 else (if (xs (x3).toNatClampNeg &&& (63 : Int32)) = 21 then f_law_21 xs L k σ τ x3 else (if (xs (x3).toNatClampNeg &&& (63 : Int32)) = 22 then f_law_22 xs L k σ τ x3 else (if (xs (x3).toNatClampNeg &&& (63 : Int32)) = 23 then f_law_23 xs L k σ τ x3 else (if (xs (x3).toNatClampNeg &&& (63 : Int32)) = 24 then f_law_24 xs L k σ τ x3 else (if (xs (x3).toNatClampNeg &&& (63 : Int32)) = 25 then f_law_25 xs L k σ τ x3 else (if (xs (x3).toNatClampNeg &&& (63 : Int32)) = 26 then f_law_26 xs L k σ τ x3 else (if (xs (x3).toNatClampNeg &&& (63 : Int32)) = 27 then f_law_27 xs L k σ τ x3 else (if (xs (x3).toNatClampNeg &&& (63 : Int32)) = 28 then f_law_28 xs L k σ τ x3 else (if (xs (x3).toNatClampNeg &&& (63 : Int32)) = 29 then f_law_29 xs L k σ τ x3 else (if (xs (x3).toNatClampNeg &&& (63 : Int32)) = 30 then f_law_30 xs L k σ τ x3 else (if (xs (x3).toNatClampNeg &&& (63 : Int32)) = 31 then f_law_31 xs L k σ τ x3 else (if (xs (x3).toNatClampNeg &&& (63 : Int32)) = 32 then f_law_32 xs L k σ τ x3 else (if (xs (x3).toNatClampNeg &&& (63 : Int32)) = 33 then f_law_33 xs L k σ τ x3 else (if (xs (x3).toNatClampNeg &&& (63 : Int32)) = 34 then f_law_34 xs L k σ τ x3 else (if (xs (x3).toNatClampNeg &&& (63 : Int32)) = 35 then f_law_35 xs L k σ τ x3 else (if (xs (x3).toNatClampNeg &&& (63 : Int32)) = 36 then f_law_36 xs L k σ τ x3 else (k σ τ (x3 + (6 : Int32)))))))))))))))))))))))))))))))))))))))))
def f_law_l18 (xs : Nat → Int32) (L : Nat) (n : Nat) : Sg → Sg → Int32 → Option Unit := am_rec (fun _ _ _ => none) (fun k => f_law_b18 xs L k) n
