set_option maxRecDepth 20000 in
theorem ggL_law_X10_init : GoodIn wsL_law wsX10_init := goodIn_r _ [8, 9, 10, 11, 12, 13, 14, 15, 16, 17, 18, 19, 20, 21, 22, 23, 24, 25, 26, 27, 28, 29, 30, 31, 32, 33, 34, 35, 36, 37, 38, 39, 40, 41, 42, 43, 44, 45, 46, 47, 48, 49, 50, 51, 52, 53, 54, 55, 56, 57, 58, 59, 60, 61, 62, 63, 64, 65, 66, 67, 68, 69, 70, 71, 72, 73, 74, 75, 76, 77, 78, 79, 80, 81, 82, 83, 84, 85, 86, 87, 88, 89, 90, 91, 92, 93, 94, 95, 96, 97, 98, 1138, 1139, 1140, 1141, 1142, 1143, 1144, 1145, 1146, 1147, 1090, 1091, 1092, 1093, 1094, 1095, 1096, 1097, 1098, 1148, 1149, 1150, 1151, 1152, 1153, 1154, 1155, 1156, 1157, 1158, 1159, 1160, 1161, 1162, 1163, 1164, 1165, 1166, 1167, 1168, 1169, 1170, 1171, 1172, 1173, 1174, 1175, 1176, 1177, 1178] (by decide +kernel) (by decide +kernel)
set_option maxRecDepth 20000 in
theorem gL_law_X10_init : GoodIn wsL_law (wsX10_init) := ggL_law_X10_init
set_option maxRecDepth 20000 in
theorem ggL_law_X11_init : GoodIn wsL_law wsX11_init := goodIn_r _ [101, 102, 10, 11, 47, 103, 104, 105, 106, 107, 108, 109, 71, 110, 111, 112, 113, 97, 114, 115, 116, 117, 118, 119, 120, 121, 122, 123, 124, 125, 126, 5, 127, 128, 129, 130, 131, 1099, 1100, 1101, 1102, 1103, 1104, 1105, 1106, 1107, 1108, 1109, 1110, 1111, 1112, 1113, 1114, 1115, 1116, 1117, 1118, 1119, 1120, 1121, 1122, 1123, 1124, 1125, 1126, 1127, 1128, 1129, 1130, 1131, 1132, 1133, 1134, 1135, 1136, 1137] (by decide +kernel) (by decide +kernel)
set_option maxRecDepth 20000 in
theorem gL_law_X11_init : GoodIn wsL_law (wsX11_init) := ggL_law_X11_init
set_option maxRecDepth 20000 in
theorem ggL_law_X10_write : GoodIn wsL_law wsX10_write := goodIn_r _ [135, 15, 136, 137, 138, 2, 139, 140, 141, 142, 14, 143, 144, 46, 1090, 1091, 1092, 1093, 1094, 1095, 1096, 1097, 1098, 1138, 1139, 1140, 1141, 1142, 1143, 1144, 1145, 1146, 1147] (by decide +kernel) (by decide +kernel)
set_option maxRecDepth 20000 in
theorem gL_law_X10_write : GoodIn wsL_law (wsV RL 13 RX10 yX10_write wsX10_write) := goodIn_app (goodIn_of _ (by decide +kernel)) ggL_law_X10_write
set_option maxRecDepth 20000 in
theorem ggL_law_X11_write : GoodIn wsL_law wsX11_write := goodIn_r _ [148, 149, 106, 150, 151, 5, 152, 1099, 1100, 1101, 1102, 1103, 1104, 1105, 1106, 1107, 1108, 1109, 1110, 1111, 1112, 1113, 1114, 1115, 1116, 1117, 1118, 1119, 1120, 1121, 1122, 1123, 1124, 1125, 1126, 1127, 1128, 1129, 1130, 1131, 1132, 1133, 1134, 1135, 1136, 1137] (by decide +kernel) (by decide +kernel)
set_option maxRecDepth 20000 in
theorem gL_law_X11_write : GoodIn wsL_law (wsV RL 17 RX11 yX11_write wsX11_write) := goodIn_app (goodIn_of _ (by decide +kernel)) ggL_law_X11_write
set_option maxRecDepth 20000 in
theorem ggL_law_X10_erase : GoodIn wsL_law wsX10_erase := goodIn_r _ [156, 15, 136, 1090, 1091, 1092, 1093, 1094, 1095, 1096, 1097, 1098, 1138, 1139, 1140, 1141, 1142, 1143, 1144, 1145, 1146, 1147] (by decide +kernel) (by decide +kernel)
set_option maxRecDepth 20000 in
theorem gL_law_X10_erase : GoodIn wsL_law (wsV RL 18 RX10 yX10_erase wsX10_erase) := goodIn_app (goodIn_of _ (by decide +kernel)) ggL_law_X10_erase
set_option maxRecDepth 20000 in
theorem ggL_law_X11_erase : GoodIn wsL_law wsX11_erase := goodIn_r _ [160, 149, 1099, 1100, 1101, 1102, 1103, 1104, 1105, 1106, 1107, 1108, 1109, 1110, 1111, 1112, 1113, 1114, 1115, 1116, 1117, 1118, 1119, 1120, 1121, 1122, 1123, 1124, 1125, 1126, 1127, 1128, 1129, 1130, 1131, 1132, 1133, 1134, 1135, 1136, 1137] (by decide +kernel) (by decide +kernel)
set_option maxRecDepth 20000 in
theorem gL_law_X11_erase : GoodIn wsL_law (wsV RL 22 RX11 yX11_erase wsX11_erase) := goodIn_app (goodIn_of _ (by decide +kernel)) ggL_law_X11_erase
set_option maxRecDepth 20000 in
theorem ggL_law_X10_fault : GoodIn wsL_law wsX10_fault := goodIn_r _ [164, 15, 19, 165, 166, 167, 14, 168, 169, 170, 171, 172, 173, 174, 175, 176, 177, 144, 46, 178, 179, 180, 181, 182, 183, 184, 185, 186, 187, 188, 189, 190, 191, 48, 192, 193, 194, 195, 196, 197, 198, 199, 200, 201, 202, 203, 204, 205, 206, 207, 208, 209, 210, 211, 212, 213, 214, 215, 216, 217, 218, 219, 220, 221, 222, 223, 224, 225, 226, 227, 228, 229, 230, 231, 232, 233, 234, 235, 236, 237, 238, 239, 240, 241, 242, 243, 244, 245, 246, 247, 248, 249, 250, 251, 252, 253, 254, 255, 256, 257, 258, 259, 260, 261, 262, 263, 264, 49, 265, 266, 267, 268, 138, 2, 139, 269, 270, 271, 272, 1090, 1091, 1092, 1093, 1094, 1095, 1096, 1097, 1098, 1148, 1149, 1150, 1151, 1152, 1153, 1154, 1155, 1156, 1157, 1158, 1159, 1138, 1139, 1140, 1141, 1142, 1143, 1144, 1145, 1146, 1147] (by decide +kernel) (by decide +kernel)
set_option maxRecDepth 20000 in
theorem gL_law_X10_fault : GoodIn wsL_law (wsV RL 23 RX10 yX10_fault wsX10_fault) := goodIn_app (goodIn_of _ (by decide +kernel)) ggL_law_X10_fault
set_option maxRecDepth 20000 in
theorem ggL_law_X11_fault : GoodIn wsL_law wsX11_fault := goodIn_r _ [276, 277, 278, 279, 280, 5, 281, 282, 283, 284, 285, 286, 287, 128, 288, 289, 290, 291, 292, 293, 294, 295, 107, 296, 297, 298, 299, 149, 106, 300, 301, 302, 303, 304, 305, 306, 150, 151, 152, 307, 308, 309, 310, 311, 312, 313, 314, 315, 316, 317, 318, 319, 320, 321, 322, 323, 324, 325, 326, 327, 328, 329, 330, 331, 332, 333, 334, 335, 1099, 1100, 1101, 1102, 1103, 1104, 1105, 1106, 1107, 1108, 1109, 1110, 1111, 1112, 1113, 1114, 1115, 1116, 1117, 1118, 1119, 1120, 1121, 1122, 1123, 1124, 1125, 1126, 1127, 1128, 1129, 1130, 1131, 1132, 1133, 1134, 1135, 1136, 1137] (by decide +kernel) (by decide +kernel)
set_option maxRecDepth 20000 in
theorem gL_law_X11_fault : GoodIn wsL_law (wsV RL 26 RX11 yX11_fault wsX11_fault) := goodIn_app (goodIn_of _ (by decide +kernel)) ggL_law_X11_fault
set_option maxRecDepth 20000 in
theorem ggL_law_X10_land : GoodIn wsL_law wsX10_land := goodIn_r _ [339, 15, 19, 340, 136, 23, 27, 341, 31, 342, 165, 166, 167, 14, 168, 169, 170, 171, 172, 173, 174, 175, 176, 177, 144, 46, 178, 179, 180, 181, 182, 183, 184, 185, 186, 187, 188, 189, 190, 191, 48, 192, 193, 194, 195, 196, 197, 198, 199, 200, 201, 202, 203, 204, 205, 206, 207, 208, 209, 210, 211, 212, 213, 214, 215, 216, 217, 218, 219, 220, 221, 222, 223, 224, 225, 226, 227, 228, 229, 230, 231, 232, 233, 234, 235, 236, 237, 238, 239, 240, 241, 242, 243, 244, 245, 246, 247, 248, 249, 250, 251, 252, 253, 254, 255, 256, 257, 258, 259, 260, 261, 262, 263, 264, 49, 265, 266, 267, 268, 138, 2, 139, 269, 270, 271, 272, 343, 344, 345, 346, 347, 348, 349, 350, 18, 351, 352, 353, 354, 355, 356, 357, 358, 359, 53, 360, 361, 362, 363, 54, 55, 56, 57, 364, 365, 366, 367, 58, 59, 60, 368, 369, 370, 22, 371, 68, 372, 72, 373, 374, 375, 67, 376, 76, 377, 378, 77, 78, 79, 379, 380, 381, 382, 383, 1090, 1091, 1092, 1093, 1094, 1095, 1096, 1097, 1098, 1138, 1139, 1140, 1141, 1142, 1143, 1144, 1145, 1146, 1147, 1166, 1167, 1168, 1169, 1170, 1171, 1148, 1149, 1150, 1151, 1152, 1153, 1154, 1155, 1156, 1157, 1158, 1159, 1160, 1161, 1162, 1163, 1164, 1165, 1174, 1175, 1176, 1177, 1178] (by decide +kernel) (by decide +kernel)
set_option maxRecDepth 20000 in
theorem gL_law_X10_land : GoodIn wsL_law (wsV RL 27 RX10 yX10_land wsX10_land) := goodIn_app (goodIn_of _ (by decide +kernel)) ggL_law_X10_land
set_option maxRecDepth 20000 in
theorem ggL_law_X11_land : GoodIn wsL_law wsX11_land := goodIn_r _ [387, 283, 149, 278, 279, 280, 5, 281, 282, 284, 285, 286, 287, 128, 288, 289, 290, 291, 292, 293, 294, 295, 107, 296, 297, 298, 299, 106, 300, 301, 302, 303, 304, 305, 306, 150, 151, 152, 307, 308, 309, 310, 311, 312, 313, 314, 315, 316, 317, 318, 319, 320, 321, 322, 323, 324, 325, 326, 327, 277, 328, 329, 330, 331, 332, 333, 334, 335, 388, 389, 390, 391, 103, 104, 105, 392, 124, 125, 126, 127, 108, 110, 129, 130, 131, 1099, 1100, 1101, 1102, 1103, 1104, 1105, 1106, 1107, 1108, 1109, 1110, 1111, 1112, 1113, 1114, 1115, 1116, 1117, 1118, 1119, 1120, 1121, 1122, 1123, 1124, 1125, 1126, 1127, 1128, 1129, 1130, 1131, 1132, 1133, 1134, 1135, 1136, 1137] (by decide +kernel) (by decide +kernel)
set_option maxRecDepth 20000 in
theorem gL_law_X11_land : GoodIn wsL_law (wsV RL 30 RX11 yX11_land wsX11_land) := goodIn_app (goodIn_of _ (by decide +kernel)) ggL_law_X11_land
set_option maxRecDepth 20000 in
theorem ggL_law_X10_place : GoodIn wsL_law wsX10_place := goodIn_r _ [396, 19, 397, 23, 398, 399, 400, 401, 402, 403, 18, 404, 352, 405, 406, 407, 408, 353, 409, 410, 411, 412, 55, 56, 413, 414, 415, 67, 416, 76, 1090, 1091, 1092, 1093, 1094, 1095, 1096, 1097, 1098, 1148, 1149, 1150, 1151, 1152, 1153, 1154, 1155, 1156, 1157, 1158, 1159, 1160, 1161, 1162, 1163, 1164, 1165, 1174, 1175, 1176, 1177, 1178] (by decide +kernel) (by decide +kernel)
set_option maxRecDepth 20000 in
theorem gL_law_X10_place : GoodIn wsL_law (wsV RL 31 RX10 yX10_place wsX10_place) := goodIn_app (goodIn_of _ (by decide +kernel)) ggL_law_X10_place
set_option maxRecDepth 20000 in
theorem ggL_law_X11_place : GoodIn wsL_law wsX11_place := goodIn_r _ [420, 286, 128, 108, 103, 421, 422, 423, 5, 424, 284, 150, 151, 152, 425, 426, 427, 428, 104, 1099, 1100, 1101, 1102, 1103, 1104, 1105, 1106, 1107, 1108, 1109, 1110, 1111, 1112, 1113, 1114, 1115, 1116, 1117, 1118, 1119, 1120, 1121, 1122, 1123, 1124, 1125, 1126, 1127, 1128, 1129, 1130, 1131, 1132, 1133, 1134, 1135, 1136, 1137] (by decide +kernel) (by decide +kernel)
set_option maxRecDepth 20000 in
theorem gL_law_X11_place : GoodIn wsL_law (wsV RL 35 RX11 yX11_place wsX11_place) := goodIn_app (goodIn_of _ (by decide +kernel)) ggL_law_X11_place
set_option maxRecDepth 20000 in
theorem ggL_law_X10_road : GoodIn wsL_law wsX10_road := goodIn_r _ [432, 19, 433, 434, 435, 436, 437, 438, 439, 18, 440, 353, 1090, 1091, 1092, 1093, 1094, 1095, 1096, 1097, 1098, 1148, 1149, 1150, 1151, 1152, 1153, 1154, 1155, 1156, 1157, 1158, 1159] (by decide +kernel) (by decide +kernel)
set_option maxRecDepth 20000 in
theorem gL_law_X10_road : GoodIn wsL_law (wsV RL 36 RX10 yX10_road wsX10_road) := goodIn_app (goodIn_of _ (by decide +kernel)) ggL_law_X10_road
set_option maxRecDepth 20000 in
theorem ggL_law_X11_road : GoodIn wsL_law wsX11_road := goodIn_r _ [444, 104, 445, 446, 447, 5, 448, 286, 150, 151, 152, 1099, 1100, 1101, 1102, 1103, 1104, 1105, 1106, 1107, 1108, 1109, 1110, 1111, 1112, 1113, 1114, 1115, 1116, 1117, 1118, 1119, 1120, 1121, 1122, 1123, 1124, 1125, 1126, 1127, 1128, 1129, 1130, 1131, 1132, 1133, 1134, 1135, 1136, 1137] (by decide +kernel) (by decide +kernel)
set_option maxRecDepth 20000 in
theorem gL_law_X11_road : GoodIn wsL_law (wsV RL 39 RX11 yX11_road wsX11_road) := goodIn_app (goodIn_of _ (by decide +kernel)) ggL_law_X11_road
set_option maxRecDepth 20000 in
theorem ggL_law_X10_cart : GoodIn wsL_law wsX10_cart := goodIn_r _ [452, 19, 453, 454, 23, 398, 455, 456, 457, 458, 459, 460, 18, 461, 354, 1090, 1091, 1092, 1093, 1094, 1095, 1096, 1097, 1098, 1148, 1149, 1150, 1151, 1152, 1153, 1154, 1155, 1156, 1157, 1158, 1159, 1160, 1161, 1162, 1163, 1164, 1165, 1174, 1175, 1176, 1177, 1178] (by decide +kernel) (by decide +kernel)
set_option maxRecDepth 20000 in
theorem gL_law_X10_cart : GoodIn wsL_law (wsV RL 40 RX10 yX10_cart wsX10_cart) := goodIn_app (goodIn_of _ (by decide +kernel)) ggL_law_X10_cart
set_option maxRecDepth 20000 in
theorem ggL_law_X11_cart : GoodIn wsL_law wsX11_cart := goodIn_r _ [465, 108, 466, 467, 468, 5, 469, 128, 150, 151, 152, 470, 471, 472, 473, 105, 474, 475, 476, 477, 1099, 1100, 1101, 1102, 1103, 1104, 1105, 1106, 1107, 1108, 1109, 1110, 1111, 1112, 1113, 1114, 1115, 1116, 1117, 1118, 1119, 1120, 1121, 1122, 1123, 1124, 1125, 1126, 1127, 1128, 1129, 1130, 1131, 1132, 1133, 1134, 1135, 1136, 1137] (by decide +kernel) (by decide +kernel)
set_option maxRecDepth 20000 in
theorem gL_law_X11_cart : GoodIn wsL_law (wsV RL 43 RX11 yX11_cart wsX11_cart) := goodIn_app (goodIn_of _ (by decide +kernel)) ggL_law_X11_cart
set_option maxRecDepth 20000 in
theorem ggL_law_X10_as : GoodIn wsL_law wsX10_as := goodIn_r _ [481, 19, 23, 398, 457, 458, 459, 460, 18, 461, 354, 137, 138, 2, 139, 482, 483, 484, 485, 58, 486, 487, 488, 489, 455, 456, 453, 454, 490, 491, 492, 493, 53, 355, 494, 495, 496, 497, 498, 499, 500, 501, 502, 503, 504, 505, 506, 507, 508, 509, 510, 1090, 1091, 1092, 1093, 1094, 1095, 1096, 1097, 1098, 1160, 1161, 1162, 1163, 1164, 1165, 1174, 1175, 1176, 1177, 1178, 1148, 1149, 1150, 1151, 1152, 1153, 1154, 1155, 1156, 1157, 1158, 1159] (by decide +kernel) (by decide +kernel)
set_option maxRecDepth 20000 in
theorem gL_law_X10_as : GoodIn wsL_law (wsV RL 44 RX10 yX10_as wsX10_as) := goodIn_app (goodIn_of _ (by decide +kernel)) ggL_law_X10_as
set_option maxRecDepth 20000 in
theorem ggL_law_X11_as : GoodIn wsL_law wsX11_as := goodIn_r _ [514, 108, 466, 467, 468, 5, 469, 128, 150, 151, 152, 470, 471, 472, 473, 105, 474, 475, 476, 477, 515, 516, 517, 518, 103, 519, 520, 521, 522, 392, 523, 524, 525, 526, 527, 528, 1099, 1100, 1101, 1102, 1103, 1104, 1105, 1106, 1107, 1108, 1109, 1110, 1111, 1112, 1113, 1114, 1115, 1116, 1117, 1118, 1119, 1120, 1121, 1122, 1123, 1124, 1125, 1126, 1127, 1128, 1129, 1130, 1131, 1132, 1133, 1134, 1135, 1136, 1137] (by decide +kernel) (by decide +kernel)
set_option maxRecDepth 20000 in
theorem gL_law_X11_as : GoodIn wsL_law (wsV RL 47 RX11 yX11_as wsX11_as) := goodIn_app (goodIn_of _ (by decide +kernel)) ggL_law_X11_as
set_option maxRecDepth 20000 in
theorem ggL_law_X10_roadAs : GoodIn wsL_law wsX10_roadAs := goodIn_r _ [532, 19, 437, 438, 439, 18, 440, 353, 137, 138, 2, 139, 533, 534, 535, 536, 54, 537, 538, 539, 540, 57, 355, 494, 495, 496, 497, 498, 499, 500, 501, 502, 503, 504, 505, 506, 507, 508, 509, 510, 1090, 1091, 1092, 1093, 1094, 1095, 1096, 1097, 1098, 1148, 1149, 1150, 1151, 1152, 1153, 1154, 1155, 1156, 1157, 1158, 1159] (by decide +kernel) (by decide +kernel)
set_option maxRecDepth 20000 in
theorem gL_law_X10_roadAs : GoodIn wsL_law (wsV RL 48 RX10 yX10_roadAs wsX10_roadAs) := goodIn_app (goodIn_of _ (by decide +kernel)) ggL_law_X10_roadAs
set_option maxRecDepth 20000 in
theorem ggL_law_X11_roadAs : GoodIn wsL_law wsX11_roadAs := goodIn_r _ [544, 104, 445, 446, 447, 5, 448, 286, 150, 151, 152, 545, 546, 547, 548, 519, 520, 521, 522, 392, 523, 524, 525, 526, 527, 528, 1099, 1100, 1101, 1102, 1103, 1104, 1105, 1106, 1107, 1108, 1109, 1110, 1111, 1112, 1113, 1114, 1115, 1116, 1117, 1118, 1119, 1120, 1121, 1122, 1123, 1124, 1125, 1126, 1127, 1128, 1129, 1130, 1131, 1132, 1133, 1134, 1135, 1136, 1137] (by decide +kernel) (by decide +kernel)
set_option maxRecDepth 20000 in
theorem gL_law_X11_roadAs : GoodIn wsL_law (wsV RL 51 RX11 yX11_roadAs wsX11_roadAs) := goodIn_app (goodIn_of _ (by decide +kernel)) ggL_law_X11_roadAs
set_option maxRecDepth 20000 in
theorem ggL_law_X10_price : GoodIn wsL_law wsX10_price := goodIn_r _ [552, 137, 138, 2, 139, 553, 554, 555, 556] (by decide +kernel) (by decide +kernel)
set_option maxRecDepth 20000 in
theorem gL_law_X10_price : GoodIn wsL_law (wsV RL 52 RX10 yX10_price wsX10_price) := goodIn_app (goodIn_of _ (by decide +kernel)) ggL_law_X10_price
set_option maxRecDepth 20000 in
theorem ggL_law_X11_price : GoodIn wsL_law wsX11_price := goodIn_r _ [560, 150, 151, 5, 152, 561, 562, 563] (by decide +kernel) (by decide +kernel)
set_option maxRecDepth 20000 in
theorem gL_law_X11_price : GoodIn wsL_law (wsV RL 55 RX11 yX11_price wsX11_price) := goodIn_app (goodIn_of _ (by decide +kernel)) ggL_law_X11_price
set_option maxRecDepth 20000 in
theorem ggL_law_X10_fill : GoodIn wsL_law wsX10_fill := goodIn_r _ [567, 19, 23, 398, 457, 458, 459, 460, 18, 461, 354, 137, 138, 2, 139, 568, 569, 570, 571, 397, 455, 572, 573, 574, 22, 575, 69, 576, 68, 372, 577, 509, 500, 510, 578, 579, 580, 67, 581, 76, 582, 583, 584, 585, 77, 78, 79, 379, 1090, 1091, 1092, 1093, 1094, 1095, 1096, 1097, 1098, 1160, 1161, 1162, 1163, 1164, 1165, 1174, 1175, 1176, 1177, 1178, 1148, 1149, 1150, 1151, 1152, 1153, 1154, 1155, 1156, 1157, 1158, 1159] (by decide +kernel) (by decide +kernel)
set_option maxRecDepth 20000 in
theorem gL_law_X10_fill : GoodIn wsL_law (wsV RL 56 RX10 yX10_fill wsX10_fill) := goodIn_app (goodIn_of _ (by decide +kernel)) ggL_law_X10_fill
set_option maxRecDepth 20000 in
theorem ggL_law_X11_fill : GoodIn wsL_law wsX11_fill := goodIn_r _ [589, 103, 108, 466, 467, 468, 5, 469, 128, 150, 151, 152, 590, 591, 592, 593, 129, 111, 594, 595, 596, 1099, 1100, 1101, 1102, 1103, 1104, 1105, 1106, 1107, 1108, 1109, 1110, 1111, 1112, 1113, 1114, 1115, 1116, 1117, 1118, 1119, 1120, 1121, 1122, 1123, 1124, 1125, 1126, 1127, 1128, 1129, 1130, 1131, 1132, 1133, 1134, 1135, 1136, 1137] (by decide +kernel) (by decide +kernel)
set_option maxRecDepth 20000 in
theorem gL_law_X11_fill : GoodIn wsL_law (wsV RL 59 RX11 yX11_fill wsX11_fill) := goodIn_app (goodIn_of _ (by decide +kernel)) ggL_law_X11_fill
set_option maxRecDepth 20000 in
theorem ggL_law_X10_go : GoodIn wsL_law wsX10_go := goodIn_r _ [600, 19, 23, 398, 455, 457, 456, 436, 458, 459, 460, 18, 461, 354, 437, 438, 439, 440, 353, 601, 410, 411, 412, 55, 56, 602, 603, 604, 2, 605, 606, 607, 608, 609, 453, 454, 537, 538, 539, 540, 54, 57, 355, 494, 495, 496, 497, 498, 499, 500, 501, 502, 503, 504, 505, 506, 507, 508, 509, 510, 572, 573, 574, 22, 575, 69, 576, 68, 372, 577, 578, 579, 580, 67, 581, 76, 582, 583, 584, 585, 77, 78, 79, 379, 610, 611, 612, 613, 1090, 1091, 1092, 1093, 1094, 1095, 1096, 1097, 1098, 1160, 1161, 1162, 1163, 1164, 1165, 1174, 1175, 1176, 1177, 1178, 1148, 1149, 1150, 1151, 1152, 1153, 1154, 1155, 1156, 1157, 1158, 1159] (by decide +kernel) (by decide +kernel)
set_option maxRecDepth 20000 in
theorem gL_law_X10_go : GoodIn wsL_law (wsV RL 60 RX10 yX10_go wsX10_go) := goodIn_app (goodIn_of _ (by decide +kernel)) ggL_law_X10_go
set_option maxRecDepth 20000 in
theorem ggL_law_X11_go : GoodIn wsL_law wsX11_go := goodIn_r _ [617, 108, 104, 466, 467, 468, 5, 469, 128, 150, 151, 152, 445, 446, 447, 448, 286, 425, 426, 427, 428, 590, 591, 592, 593, 129, 111, 594, 595, 596, 470, 471, 472, 473, 105, 474, 475, 476, 477, 545, 546, 547, 548, 519, 520, 521, 522, 392, 523, 524, 525, 526, 527, 528, 1099, 1100, 1101, 1102, 1103, 1104, 1105, 1106, 1107, 1108, 1109, 1110, 1111, 1112, 1113, 1114, 1115, 1116, 1117, 1118, 1119, 1120, 1121, 1122, 1123, 1124, 1125, 1126, 1127, 1128, 1129, 1130, 1131, 1132, 1133, 1134, 1135, 1136, 1137] (by decide +kernel) (by decide +kernel)
set_option maxRecDepth 20000 in
theorem gL_law_X11_go : GoodIn wsL_law (wsV RL 63 RX11 yX11_go wsX11_go) := goodIn_app (goodIn_of _ (by decide +kernel)) ggL_law_X11_go
set_option maxRecDepth 20000 in
theorem ggL_law_X10_rest : GoodIn wsL_law wsX10_rest := goodIn_r _ [621, 19, 23, 398, 456, 457, 458, 459, 460, 18, 461, 354, 137, 138, 2, 139, 486, 487, 488, 489, 455, 453, 454, 490, 491, 492, 493, 53, 355, 494, 495, 496, 497, 498, 499, 500, 501, 502, 503, 504, 505, 506, 507, 508, 509, 510, 572, 573, 574, 22, 575, 69, 576, 68, 372, 577, 578, 579, 580, 67, 581, 76, 582, 583, 584, 585, 77, 78, 79, 379, 1090, 1091, 1092, 1093, 1094, 1095, 1096, 1097, 1098, 1160, 1161, 1162, 1163, 1164, 1165, 1174, 1175, 1176, 1177, 1178, 1148, 1149, 1150, 1151, 1152, 1153, 1154, 1155, 1156, 1157, 1158, 1159] (by decide +kernel) (by decide +kernel)
set_option maxRecDepth 20000 in
theorem gL_law_X10_rest : GoodIn wsL_law (wsV RL 64 RX10 yX10_rest wsX10_rest) := goodIn_app (goodIn_of _ (by decide +kernel)) ggL_law_X10_rest
set_option maxRecDepth 20000 in
theorem ggL_law_X11_rest : GoodIn wsL_law wsX11_rest := goodIn_r _ [625, 108, 466, 467, 468, 5, 469, 128, 150, 151, 152, 590, 591, 592, 593, 129, 111, 594, 595, 596, 626, 627, 628, 629, 470, 471, 472, 473, 105, 474, 475, 476, 477, 515, 516, 517, 518, 103, 519, 520, 521, 522, 392, 523, 524, 525, 526, 527, 528, 1099, 1100, 1101, 1102, 1103, 1104, 1105, 1106, 1107, 1108, 1109, 1110, 1111, 1112, 1113, 1114, 1115, 1116, 1117, 1118, 1119, 1120, 1121, 1122, 1123, 1124, 1125, 1126, 1127, 1128, 1129, 1130, 1131, 1132, 1133, 1134, 1135, 1136, 1137] (by decide +kernel) (by decide +kernel)
set_option maxRecDepth 20000 in
theorem gL_law_X11_rest : GoodIn wsL_law (wsV RL 67 RX11 yX11_rest wsX11_rest) := goodIn_app (goodIn_of _ (by decide +kernel)) ggL_law_X11_rest
set_option maxRecDepth 20000 in
theorem ggL_law_X10_join : GoodIn wsL_law wsX10_join := goodIn_r _ [633, 19, 23, 398, 455, 456, 634, 499, 500, 501, 457, 458, 459, 460, 18, 461, 354, 486, 487, 488, 2, 489, 453, 454, 490, 491, 492, 493, 53, 355, 494, 495, 496, 497, 498, 502, 503, 504, 505, 506, 507, 508, 509, 510, 572, 573, 574, 22, 575, 69, 576, 68, 372, 577, 578, 579, 580, 67, 581, 76, 582, 583, 584, 585, 77, 78, 79, 379, 1090, 1091, 1092, 1093, 1094, 1095, 1096, 1097, 1098, 1160, 1161, 1162, 1163, 1164, 1165, 1174, 1175, 1176, 1177, 1178, 1148, 1149, 1150, 1151, 1152, 1153, 1154, 1155, 1156, 1157, 1158, 1159] (by decide +kernel) (by decide +kernel)
set_option maxRecDepth 20000 in
theorem gL_law_X10_join : GoodIn wsL_law (wsV RL 68 RX10 yX10_join wsX10_join) := goodIn_app (goodIn_of _ (by decide +kernel)) ggL_law_X10_join
set_option maxRecDepth 20000 in
theorem ggL_law_X11_join : GoodIn wsL_law wsX11_join := goodIn_r _ [638, 108, 466, 467, 468, 5, 469, 128, 150, 151, 152, 626, 627, 628, 629, 470, 471, 472, 473, 105, 474, 475, 476, 477, 515, 516, 517, 518, 103, 519, 520, 521, 522, 392, 523, 524, 525, 526, 527, 528, 590, 591, 592, 593, 129, 111, 594, 595, 596, 1099, 1100, 1101, 1102, 1103, 1104, 1105, 1106, 1107, 1108, 1109, 1110, 1111, 1112, 1113, 1114, 1115, 1116, 1117, 1118, 1119, 1120, 1121, 1122, 1123, 1124, 1125, 1126, 1127, 1128, 1129, 1130, 1131, 1132, 1133, 1134, 1135, 1136, 1137] (by decide +kernel) (by decide +kernel)
set_option maxRecDepth 20000 in
theorem gL_law_X11_join : GoodIn wsL_law (wsV RL 71 RX11 yX11_join wsX11_join) := goodIn_app (goodIn_of _ (by decide +kernel)) ggL_law_X11_join
set_option maxRecDepth 20000 in
theorem ggL_law_X10_store : GoodIn wsL_law wsX10_store := goodIn_r _ [642, 19, 23, 398, 455, 399, 457, 458, 459, 460, 18, 461, 354, 568, 569, 570, 2, 571, 397, 643, 644, 496, 645, 502, 503, 504, 572, 573, 574, 22, 575, 69, 576, 68, 372, 577, 509, 500, 510, 578, 579, 580, 67, 581, 76, 582, 583, 584, 585, 77, 78, 79, 379, 1090, 1091, 1092, 1093, 1094, 1095, 1096, 1097, 1098, 1160, 1161, 1162, 1163, 1164, 1165, 1174, 1175, 1176, 1177, 1178, 1148, 1149, 1150, 1151, 1152, 1153, 1154, 1155, 1156, 1157, 1158, 1159] (by decide +kernel) (by decide +kernel)
set_option maxRecDepth 20000 in
theorem gL_law_X10_store : GoodIn wsL_law (wsV RL 72 RX10 yX10_store wsX10_store) := goodIn_app (goodIn_of _ (by decide +kernel)) ggL_law_X10_store
set_option maxRecDepth 20000 in
theorem ggL_law_X11_store : GoodIn wsL_law wsX11_store := goodIn_r _ [649, 108, 103, 466, 467, 468, 5, 469, 128, 150, 151, 152, 650, 651, 652, 526, 527, 528, 590, 591, 592, 593, 129, 111, 594, 595, 596, 1099, 1100, 1101, 1102, 1103, 1104, 1105, 1106, 1107, 1108, 1109, 1110, 1111, 1112, 1113, 1114, 1115, 1116, 1117, 1118, 1119, 1120, 1121, 1122, 1123, 1124, 1125, 1126, 1127, 1128, 1129, 1130, 1131, 1132, 1133, 1134, 1135, 1136, 1137] (by decide +kernel) (by decide +kernel)
set_option maxRecDepth 20000 in
theorem gL_law_X11_store : GoodIn wsL_law (wsV RL 75 RX11 yX11_store wsX11_store) := goodIn_app (goodIn_of _ (by decide +kernel)) ggL_law_X11_store
set_option maxRecDepth 20000 in
theorem ggL_law_X10_take : GoodIn wsL_law wsX10_take := goodIn_r _ [656, 19, 23, 398, 455, 399, 457, 458, 459, 460, 18, 461, 354, 137, 138, 2, 139, 568, 569, 570, 571, 397, 643, 644, 496, 645, 502, 503, 504, 572, 573, 574, 22, 575, 69, 576, 68, 372, 577, 509, 500, 510, 578, 579, 580, 67, 581, 76, 582, 583, 584, 585, 77, 78, 79, 379, 1090, 1091, 1092, 1093, 1094, 1095, 1096, 1097, 1098, 1160, 1161, 1162, 1163, 1164, 1165, 1174, 1175, 1176, 1177, 1178, 1148, 1149, 1150, 1151, 1152, 1153, 1154, 1155, 1156, 1157, 1158, 1159] (by decide +kernel) (by decide +kernel)
set_option maxRecDepth 20000 in
theorem gL_law_X10_take : GoodIn wsL_law (wsV RL 76 RX10 yX10_take wsX10_take) := goodIn_app (goodIn_of _ (by decide +kernel)) ggL_law_X10_take
set_option maxRecDepth 20000 in
theorem ggL_law_X11_take : GoodIn wsL_law wsX11_take := goodIn_r _ [660, 108, 103, 466, 467, 468, 5, 469, 128, 150, 151, 152, 650, 651, 652, 526, 527, 528, 590, 591, 592, 593, 129, 111, 594, 595, 596, 1099, 1100, 1101, 1102, 1103, 1104, 1105, 1106, 1107, 1108, 1109, 1110, 1111, 1112, 1113, 1114, 1115, 1116, 1117, 1118, 1119, 1120, 1121, 1122, 1123, 1124, 1125, 1126, 1127, 1128, 1129, 1130, 1131, 1132, 1133, 1134, 1135, 1136, 1137] (by decide +kernel) (by decide +kernel)
set_option maxRecDepth 20000 in
theorem gL_law_X11_take : GoodIn wsL_law (wsV RL 79 RX11 yX11_take wsX11_take) := goodIn_app (goodIn_of _ (by decide +kernel)) ggL_law_X11_take
set_option maxRecDepth 20000 in
theorem ggL_law_X10_sell : GoodIn wsL_law wsX10_sell := goodIn_r _ [664, 19, 23, 398, 457, 456, 665, 458, 459, 460, 18, 461, 354, 568, 569, 570, 2, 571, 397, 455, 553, 554, 555, 556, 572, 573, 574, 22, 575, 69, 576, 68, 372, 577, 509, 500, 510, 578, 579, 580, 67, 581, 76, 582, 583, 584, 585, 77, 78, 79, 379, 1090, 1091, 1092, 1093, 1094, 1095, 1096, 1097, 1098, 1160, 1161, 1162, 1163, 1164, 1165, 1174, 1175, 1176, 1177, 1178, 1148, 1149, 1150, 1151, 1152, 1153, 1154, 1155, 1156, 1157, 1158, 1159] (by decide +kernel) (by decide +kernel)
set_option maxRecDepth 20000 in
theorem gL_law_X10_sell : GoodIn wsL_law (wsV RL 80 RX10 yX10_sell wsX10_sell) := goodIn_app (goodIn_of _ (by decide +kernel)) ggL_law_X10_sell
set_option maxRecDepth 20000 in
theorem ggL_law_X11_sell : GoodIn wsL_law wsX11_sell := goodIn_r _ [669, 103, 108, 466, 467, 468, 5, 469, 128, 150, 151, 152, 590, 591, 592, 593, 129, 111, 594, 595, 596, 561, 562, 563, 1099, 1100, 1101, 1102, 1103, 1104, 1105, 1106, 1107, 1108, 1109, 1110, 1111, 1112, 1113, 1114, 1115, 1116, 1117, 1118, 1119, 1120, 1121, 1122, 1123, 1124, 1125, 1126, 1127, 1128, 1129, 1130, 1131, 1132, 1133, 1134, 1135, 1136, 1137] (by decide +kernel) (by decide +kernel)
set_option maxRecDepth 20000 in
theorem gL_law_X11_sell : GoodIn wsL_law (wsV RL 83 RX11 yX11_sell wsX11_sell) := goodIn_app (goodIn_of _ (by decide +kernel)) ggL_law_X11_sell
set_option maxRecDepth 20000 in
theorem ggL_law_X10_undo : GoodIn wsL_law wsX10_undo := goodIn_r _ [673, 23, 674, 675, 676, 677, 22, 678, 372, 576, 68, 69, 578, 579, 580, 67, 581, 76, 582, 583, 584, 585, 77, 78, 79, 379, 1090, 1091, 1092, 1093, 1094, 1095, 1096, 1097, 1098, 1160, 1161, 1162, 1163, 1164, 1165, 1174, 1175, 1176, 1177, 1178] (by decide +kernel) (by decide +kernel)
set_option maxRecDepth 20000 in
theorem gL_law_X10_undo : GoodIn wsL_law (wsV RL 84 RX10 yX10_undo wsX10_undo) := goodIn_app (goodIn_of _ (by decide +kernel)) ggL_law_X10_undo
set_option maxRecDepth 20000 in
theorem ggL_law_X11_undo : GoodIn wsL_law wsX11_undo := goodIn_r _ [682, 129, 111, 108, 594, 595, 5, 596, 1099, 1100, 1101, 1102, 1103, 1104, 1105, 1106, 1107, 1108, 1109, 1110, 1111, 1112, 1113, 1114, 1115, 1116, 1117, 1118, 1119, 1120, 1121, 1122, 1123, 1124, 1125, 1126, 1127, 1128, 1129, 1130, 1131, 1132, 1133, 1134, 1135, 1136, 1137] (by decide +kernel) (by decide +kernel)
set_option maxRecDepth 20000 in
theorem gL_law_X11_undo : GoodIn wsL_law (wsV RL 87 RX11 yX11_undo wsX11_undo) := goodIn_app (goodIn_of _ (by decide +kernel)) ggL_law_X11_undo
set_option maxRecDepth 20000 in
theorem ggL_law_X10_keep : GoodIn wsL_law wsX10_keep := goodIn_r _ [686, 23, 137, 138, 2, 139, 687, 688, 689, 22, 690, 70, 68, 72, 578, 579, 580, 67, 581, 76, 582, 583, 584, 585, 77, 78, 79, 379, 1090, 1091, 1092, 1093, 1094, 1095, 1096, 1097, 1098, 1160, 1161, 1162, 1163, 1164, 1165, 1174, 1175, 1176, 1177, 1178] (by decide +kernel) (by decide +kernel)
set_option maxRecDepth 20000 in
theorem gL_law_X10_keep : GoodIn wsL_law (wsV RL 88 RX10 yX10_keep wsX10_keep) := goodIn_app (goodIn_of _ (by decide +kernel)) ggL_law_X10_keep
set_option maxRecDepth 20000 in
theorem ggL_law_X11_keep : GoodIn wsL_law wsX11_keep := goodIn_r _ [694, 108, 109, 110, 150, 151, 5, 152, 594, 595, 596, 1099, 1100, 1101, 1102, 1103, 1104, 1105, 1106, 1107, 1108, 1109, 1110, 1111, 1112, 1113, 1114, 1115, 1116, 1117, 1118, 1119, 1120, 1121, 1122, 1123, 1124, 1125, 1126, 1127, 1128, 1129, 1130, 1131, 1132, 1133, 1134, 1135, 1136, 1137] (by decide +kernel) (by decide +kernel)
set_option maxRecDepth 20000 in
theorem gL_law_X11_keep : GoodIn wsL_law (wsV RL 91 RX11 yX11_keep wsX11_keep) := goodIn_app (goodIn_of _ (by decide +kernel)) ggL_law_X11_keep
set_option maxRecDepth 20000 in
theorem ggL_law_X10_back : GoodIn wsL_law wsX10_back := goodIn_r _ [698, 23, 137, 138, 2, 139, 699, 700, 701, 22, 702, 72, 68, 70, 372, 578, 579, 580, 67, 581, 76, 582, 583, 584, 585, 77, 78, 79, 379, 1090, 1091, 1092, 1093, 1094, 1095, 1096, 1097, 1098, 1160, 1161, 1162, 1163, 1164, 1165, 1174, 1175, 1176, 1177, 1178] (by decide +kernel) (by decide +kernel)
set_option maxRecDepth 20000 in
theorem gL_law_X10_back : GoodIn wsL_law (wsV RL 92 RX10 yX10_back wsX10_back) := goodIn_app (goodIn_of _ (by decide +kernel)) ggL_law_X10_back
set_option maxRecDepth 20000 in
theorem ggL_law_X11_back : GoodIn wsL_law wsX11_back := goodIn_r _ [706, 110, 109, 108, 129, 150, 151, 5, 152, 594, 595, 596, 1099, 1100, 1101, 1102, 1103, 1104, 1105, 1106, 1107, 1108, 1109, 1110, 1111, 1112, 1113, 1114, 1115, 1116, 1117, 1118, 1119, 1120, 1121, 1122, 1123, 1124, 1125, 1126, 1127, 1128, 1129, 1130, 1131, 1132, 1133, 1134, 1135, 1136, 1137] (by decide +kernel) (by decide +kernel)
set_option maxRecDepth 20000 in
theorem gL_law_X11_back : GoodIn wsL_law (wsV RL 95 RX11 yX11_back wsX11_back) := goodIn_app (goodIn_of _ (by decide +kernel)) ggL_law_X11_back
set_option maxRecDepth 20000 in
theorem ggL_law_X10_comes : GoodIn wsL_law wsX10_comes := goodIn_r _ [710, 19, 39, 454, 458, 459, 460, 18, 461, 354, 401, 402, 403, 404, 352, 137, 138, 2, 139, 711, 712, 713, 714, 23, 398, 455, 456, 457, 453, 715, 716, 717, 38, 718, 98, 719, 720, 382, 721, 722, 723, 724, 725, 726, 727, 728, 729, 730, 731, 732, 733, 734, 735, 736, 737, 738, 739, 740, 741, 491, 492, 493, 53, 355, 494, 495, 496, 497, 498, 499, 500, 501, 502, 503, 504, 505, 506, 507, 508, 509, 510, 742, 743, 410, 411, 412, 55, 56, 744, 611, 612, 613, 745, 538, 539, 540, 54, 57, 746, 747, 748, 749, 750, 751, 752, 753, 754, 755, 756, 757, 758, 1090, 1091, 1092, 1093, 1094, 1095, 1096, 1097, 1098, 1148, 1149, 1150, 1151, 1152, 1153, 1154, 1155, 1156, 1157, 1158, 1159, 1160, 1161, 1162, 1163, 1164, 1165, 1174, 1175, 1176, 1177, 1178, 1173] (by decide +kernel) (by decide +kernel)
set_option maxRecDepth 20000 in
theorem gL_law_X10_comes : GoodIn wsL_law (wsV RL 96 RX10 yX10_comes wsX10_comes) := goodIn_app (goodIn_of _ (by decide +kernel)) ggL_law_X10_comes
set_option maxRecDepth 20000 in
theorem ggL_law_X11_comes : GoodIn wsL_law wsX11_comes := goodIn_r _ [762, 114, 115, 466, 467, 468, 5, 469, 128, 150, 151, 152, 421, 422, 423, 424, 284, 474, 475, 476, 477, 105, 763, 764, 765, 766, 108, 767, 768, 769, 770, 771, 772, 470, 471, 472, 473, 773, 774, 775, 776, 286, 104, 777, 778, 779, 515, 516, 517, 518, 103, 519, 520, 521, 522, 392, 523, 524, 525, 526, 527, 528, 425, 426, 427, 428, 545, 546, 547, 548, 780, 781, 782, 783, 784, 785, 786, 787, 1099, 1100, 1101, 1102, 1103, 1104, 1105, 1106, 1107, 1108, 1109, 1110, 1111, 1112, 1113, 1114, 1115, 1116, 1117, 1118, 1119, 1120, 1121, 1122, 1123, 1124, 1125, 1126, 1127, 1128, 1129, 1130, 1131, 1132, 1133, 1134, 1135, 1136, 1137] (by decide +kernel) (by decide +kernel)
set_option maxRecDepth 20000 in
theorem gL_law_X11_comes : GoodIn wsL_law (wsV RL 100 RX11 yX11_comes wsX11_comes) := goodIn_app (goodIn_of _ (by decide +kernel)) ggL_law_X11_comes
set_option maxRecDepth 20000 in
theorem ggL_law_X10_straw : GoodIn wsL_law wsX10_straw := goodIn_r _ [791, 19, 39, 458, 459, 460, 18, 461, 354, 401, 402, 403, 404, 352, 137, 138, 2, 139, 711, 712, 713, 714, 23, 398, 455, 456, 457, 453, 715, 716, 717, 38, 718, 98, 719, 720, 382, 721, 722, 723, 724, 725, 726, 727, 728, 729, 730, 731, 732, 733, 734, 735, 736, 737, 738, 739, 740, 741, 491, 492, 493, 53, 355, 494, 495, 496, 497, 498, 499, 500, 501, 502, 503, 504, 505, 506, 507, 508, 509, 510, 742, 743, 410, 411, 412, 55, 56, 744, 611, 612, 613, 745, 538, 539, 540, 54, 57, 792, 793, 794, 795, 1090, 1091, 1092, 1093, 1094, 1095, 1096, 1097, 1098, 1148, 1149, 1150, 1151, 1152, 1153, 1154, 1155, 1156, 1157, 1158, 1159, 1160, 1161, 1162, 1163, 1164, 1165, 1174, 1175, 1176, 1177, 1178, 1173] (by decide +kernel) (by decide +kernel)
set_option maxRecDepth 20000 in
theorem gL_law_X10_straw : GoodIn wsL_law (wsV RL 101 RX10 yX10_straw wsX10_straw) := goodIn_app (goodIn_of _ (by decide +kernel)) ggL_law_X10_straw
set_option maxRecDepth 20000 in
theorem ggL_law_X11_straw : GoodIn wsL_law wsX11_straw := goodIn_r _ [799, 114, 115, 466, 467, 468, 5, 469, 128, 150, 151, 152, 421, 422, 423, 424, 284, 763, 764, 765, 766, 108, 767, 768, 769, 770, 771, 772, 470, 471, 472, 473, 105, 773, 774, 775, 776, 286, 104, 777, 778, 779, 515, 516, 517, 518, 103, 519, 520, 521, 522, 392, 523, 524, 525, 526, 527, 528, 425, 426, 427, 428, 545, 546, 547, 548, 780, 781, 782, 783, 1099, 1100, 1101, 1102, 1103, 1104, 1105, 1106, 1107, 1108, 1109, 1110, 1111, 1112, 1113, 1114, 1115, 1116, 1117, 1118, 1119, 1120, 1121, 1122, 1123, 1124, 1125, 1126, 1127, 1128, 1129, 1130, 1131, 1132, 1133, 1134, 1135, 1136, 1137] (by decide +kernel) (by decide +kernel)
set_option maxRecDepth 20000 in
theorem gL_law_X11_straw : GoodIn wsL_law (wsV RL 105 RX11 yX11_straw wsX11_straw) := goodIn_app (goodIn_of _ (by decide +kernel)) ggL_law_X11_straw
set_option maxRecDepth 20000 in
theorem ggL_law_X10_meet : GoodIn wsL_law wsX10_meet := goodIn_r _ [803, 19, 39, 454, 40, 41, 804, 453, 458, 459, 460, 18, 461, 354, 401, 402, 403, 404, 352, 137, 138, 2, 139, 711, 712, 713, 714, 23, 398, 455, 456, 457, 715, 716, 717, 38, 718, 98, 719, 720, 382, 721, 722, 723, 724, 725, 726, 727, 728, 729, 730, 731, 732, 733, 734, 735, 736, 737, 738, 739, 740, 741, 491, 492, 493, 53, 355, 494, 495, 496, 497, 498, 499, 500, 501, 502, 503, 504, 505, 506, 507, 508, 509, 510, 742, 743, 410, 411, 412, 55, 56, 744, 611, 612, 613, 745, 538, 539, 540, 54, 57, 805, 806, 807, 808, 809, 750, 751, 752, 753, 754, 755, 756, 757, 758, 1090, 1091, 1092, 1093, 1094, 1095, 1096, 1097, 1098, 1148, 1149, 1150, 1151, 1152, 1153, 1154, 1155, 1156, 1157, 1158, 1159, 1160, 1161, 1162, 1163, 1164, 1165, 1174, 1175, 1176, 1177, 1178, 1173] (by decide +kernel) (by decide +kernel)
set_option maxRecDepth 20000 in
theorem gL_law_X10_meet : GoodIn wsL_law (wsV RL 106 RX10 yX10_meet wsX10_meet) := goodIn_app (goodIn_of _ (by decide +kernel)) ggL_law_X10_meet
set_option maxRecDepth 20000 in
theorem ggL_law_X11_meet : GoodIn wsL_law wsX11_meet := goodIn_r _ [813, 114, 115, 116, 117, 118, 119, 466, 467, 468, 5, 469, 128, 150, 151, 152, 421, 422, 423, 424, 284, 474, 475, 476, 477, 105, 763, 764, 765, 766, 108, 767, 768, 769, 770, 771, 772, 470, 471, 472, 473, 773, 774, 775, 776, 286, 104, 777, 778, 779, 515, 516, 517, 518, 103, 519, 520, 521, 522, 392, 523, 524, 525, 526, 527, 528, 425, 426, 427, 428, 545, 546, 547, 548, 780, 781, 782, 783, 784, 785, 786, 787, 1099, 1100, 1101, 1102, 1103, 1104, 1105, 1106, 1107, 1108, 1109, 1110, 1111, 1112, 1113, 1114, 1115, 1116, 1117, 1118, 1119, 1120, 1121, 1122, 1123, 1124, 1125, 1126, 1127, 1128, 1129, 1130, 1131, 1132, 1133, 1134, 1135, 1136, 1137] (by decide +kernel) (by decide +kernel)
set_option maxRecDepth 20000 in
theorem gL_law_X11_meet : GoodIn wsL_law (wsV RL 109 RX11 yX11_meet wsX11_meet) := goodIn_app (goodIn_of _ (by decide +kernel)) ggL_law_X11_meet
set_option maxRecDepth 20000 in
theorem ggL_law_X10_taker : GoodIn wsL_law wsX10_taker := goodIn_r _ [817, 27, 341, 137, 138, 2, 139, 818, 819, 820, 26, 821, 822, 83, 1090, 1091, 1092, 1093, 1094, 1095, 1096, 1097, 1098, 1166, 1167] (by decide +kernel) (by decide +kernel)
set_option maxRecDepth 20000 in
theorem gL_law_X10_taker : GoodIn wsL_law (wsV RL 110 RX10 yX10_taker wsX10_taker) := goodIn_app (goodIn_of _ (by decide +kernel)) ggL_law_X10_taker
set_option maxRecDepth 20000 in
theorem ggL_law_X11_taker : GoodIn wsL_law wsX11_taker := goodIn_r _ [826, 130, 112, 150, 151, 5, 152, 1099, 1100, 1101, 1102, 1103, 1104, 1105, 1106, 1107, 1108, 1109, 1110, 1111, 1112, 1113, 1114, 1115, 1116, 1117, 1118, 1119, 1120, 1121, 1122, 1123, 1124, 1125, 1126, 1127, 1128, 1129, 1130, 1131, 1132, 1133, 1134, 1135, 1136, 1137] (by decide +kernel) (by decide +kernel)
set_option maxRecDepth 20000 in
theorem gL_law_X11_taker : GoodIn wsL_law (wsV RL 113 RX11 yX11_taker wsX11_taker) := goodIn_app (goodIn_of _ (by decide +kernel)) ggL_law_X11_taker
set_option maxRecDepth 20000 in
theorem ggL_law_X10_dismiss : GoodIn wsL_law wsX10_dismiss := goodIn_r _ [830, 27, 341, 1090, 1091, 1092, 1093, 1094, 1095, 1096, 1097, 1098, 1166, 1167] (by decide +kernel) (by decide +kernel)
set_option maxRecDepth 20000 in
theorem gL_law_X10_dismiss : GoodIn wsL_law (wsV RL 114 RX10 yX10_dismiss wsX10_dismiss) := goodIn_app (goodIn_of _ (by decide +kernel)) ggL_law_X10_dismiss
set_option maxRecDepth 20000 in
theorem ggL_law_X11_dismiss : GoodIn wsL_law wsX11_dismiss := goodIn_r _ [834, 130, 1099, 1100, 1101, 1102, 1103, 1104, 1105, 1106, 1107, 1108, 1109, 1110, 1111, 1112, 1113, 1114, 1115, 1116, 1117, 1118, 1119, 1120, 1121, 1122, 1123, 1124, 1125, 1126, 1127, 1128, 1129, 1130, 1131, 1132, 1133, 1134, 1135, 1136, 1137] (by decide +kernel) (by decide +kernel)
set_option maxRecDepth 20000 in
theorem gL_law_X11_dismiss : GoodIn wsL_law (wsV RL 117 RX11 yX11_dismiss wsX11_dismiss) := goodIn_app (goodIn_of _ (by decide +kernel)) ggL_law_X11_dismiss
set_option maxRecDepth 20000 in
theorem ggL_law_X10_left : GoodIn wsL_law wsX10_left := goodIn_r _ [838, 27, 137, 138, 2, 139, 839, 840, 841, 26, 842, 822, 843, 844, 845, 846, 83, 847, 644, 496, 645, 502, 503, 504, 848, 849, 850, 851, 1090, 1091, 1092, 1093, 1094, 1095, 1096, 1097, 1098, 1166, 1167] (by decide +kernel) (by decide +kernel)
set_option maxRecDepth 20000 in
theorem gL_law_X10_left : GoodIn wsL_law (wsV RL 118 RX10 yX10_left wsX10_left) := goodIn_app (goodIn_of _ (by decide +kernel)) ggL_law_X10_left
set_option maxRecDepth 20000 in
theorem ggL_law_X11_left : GoodIn wsL_law wsX11_left := goodIn_r _ [855, 130, 150, 151, 5, 152, 856, 857, 858, 859, 112, 860, 861, 862, 650, 651, 652, 526, 527, 528, 1099, 1100, 1101, 1102, 1103, 1104, 1105, 1106, 1107, 1108, 1109, 1110, 1111, 1112, 1113, 1114, 1115, 1116, 1117, 1118, 1119, 1120, 1121, 1122, 1123, 1124, 1125, 1126, 1127, 1128, 1129, 1130, 1131, 1132, 1133, 1134, 1135, 1136, 1137] (by decide +kernel) (by decide +kernel)
set_option maxRecDepth 20000 in
theorem gL_law_X11_left : GoodIn wsL_law (wsV RL 121 RX11 yX11_left wsX11_left) := goodIn_app (goodIn_of _ (by decide +kernel)) ggL_law_X11_left
set_option maxRecDepth 20000 in
theorem ggL_law_X10_drip : GoodIn wsL_law wsX10_drip := goodIn_r _ [866, 19, 23, 398, 455, 867, 458, 459, 460, 18, 461, 354, 401, 402, 403, 404, 352, 137, 138, 2, 139, 868, 869, 870, 871, 409, 410, 411, 412, 55, 56, 872, 611, 612, 613, 602, 603, 604, 605, 456, 436, 606, 607, 608, 609, 457, 453, 454, 537, 538, 539, 540, 54, 57, 355, 494, 495, 496, 497, 498, 499, 500, 501, 502, 503, 504, 505, 506, 507, 508, 509, 510, 1090, 1091, 1092, 1093, 1094, 1095, 1096, 1097, 1098, 1160, 1161, 1162, 1163, 1164, 1165, 1174, 1175, 1176, 1177, 1178, 1148, 1149, 1150, 1151, 1152, 1153, 1154, 1155, 1156, 1157, 1158, 1159] (by decide +kernel) (by decide +kernel)
set_option maxRecDepth 20000 in
theorem gL_law_X10_drip : GoodIn wsL_law (wsV RL 122 RX10 yX10_drip wsX10_drip) := goodIn_app (goodIn_of _ (by decide +kernel)) ggL_law_X10_drip
set_option maxRecDepth 20000 in
theorem ggL_law_X11_drip : GoodIn wsL_law wsX11_drip := goodIn_r _ [876, 108, 286, 104, 466, 467, 468, 5, 469, 128, 150, 151, 152, 421, 422, 423, 424, 284, 425, 426, 427, 428, 470, 471, 472, 473, 105, 474, 475, 476, 477, 545, 546, 547, 548, 519, 520, 521, 522, 392, 523, 524, 525, 526, 527, 528, 1099, 1100, 1101, 1102, 1103, 1104, 1105, 1106, 1107, 1108, 1109, 1110, 1111, 1112, 1113, 1114, 1115, 1116, 1117, 1118, 1119, 1120, 1121, 1122, 1123, 1124, 1125, 1126, 1127, 1128, 1129, 1130, 1131, 1132, 1133, 1134, 1135, 1136, 1137] (by decide +kernel) (by decide +kernel)
set_option maxRecDepth 20000 in
theorem gL_law_X11_drip : GoodIn wsL_law (wsV RL 125 RX11 yX11_drip wsX11_drip) := goodIn_app (goodIn_of _ (by decide +kernel)) ggL_law_X11_drip
set_option maxRecDepth 20000 in
theorem ggL_law_X10_seal : GoodIn wsL_law wsX10_seal := goodIn_r _ [880, 881, 137, 138, 2, 139, 882, 555, 883, 884, 885, 500, 886, 887, 888, 889, 890, 891, 644, 496, 645, 502, 503, 504, 892, 893, 894, 895, 896, 897] (by decide +kernel) (by decide +kernel)
set_option maxRecDepth 20000 in
theorem gL_law_X10_seal : GoodIn wsL_law (wsV RL 126 RX10 yX10_seal wsX10_seal) := goodIn_app (goodIn_of _ (by decide +kernel)) ggL_law_X10_seal
set_option maxRecDepth 20000 in
theorem ggL_law_X11_seal : GoodIn wsL_law wsX11_seal := goodIn_r _ [901, 290, 123, 902, 903, 904, 150, 151, 5, 152, 526, 527, 528, 1099, 1100, 1101, 1102, 1103, 1104, 1105, 1106, 1107, 1108, 1109, 1110, 1111, 1112, 1113, 1114, 1115, 1116, 1117, 1118, 1119, 1120, 1121, 1122, 1123, 1124, 1125, 1126, 1127, 1128, 1129, 1130, 1131, 1132, 1133, 1134, 1135, 1136, 1137] (by decide +kernel) (by decide +kernel)
set_option maxRecDepth 20000 in
theorem gL_law_X11_seal : GoodIn wsL_law (wsV RL 130 RX11 yX11_seal wsX11_seal) := goodIn_app (goodIn_of _ (by decide +kernel)) ggL_law_X11_seal
set_option maxRecDepth 20000 in
theorem ggL_law_X10_rent : GoodIn wsL_law wsX10_rent := goodIn_r _ [908, 19, 458, 459, 460, 18, 461, 354, 437, 438, 439, 440, 353, 909, 910, 911, 2, 912, 23, 398, 455, 601, 410, 411, 412, 55, 56, 602, 603, 604, 605, 456, 436, 913, 914, 915, 916, 606, 607, 608, 609, 457, 453, 454, 537, 538, 539, 540, 54, 57, 355, 494, 495, 496, 497, 498, 499, 500, 501, 502, 503, 504, 505, 506, 507, 508, 509, 510, 553, 554, 555, 556, 1090, 1091, 1092, 1093, 1094, 1095, 1096, 1097, 1098, 1148, 1149, 1150, 1151, 1152, 1153, 1154, 1155, 1156, 1157, 1158, 1159, 1160, 1161, 1162, 1163, 1164, 1165, 1174, 1175, 1176, 1177, 1178] (by decide +kernel) (by decide +kernel)
set_option maxRecDepth 20000 in
theorem gL_law_X10_rent : GoodIn wsL_law (wsV RL 131 RX10 yX10_rent wsX10_rent) := goodIn_app (goodIn_of _ (by decide +kernel)) ggL_law_X10_rent
set_option maxRecDepth 20000 in
theorem ggL_law_X11_rent : GoodIn wsL_law wsX11_rent := goodIn_r _ [920, 466, 467, 468, 5, 469, 128, 150, 151, 152, 445, 446, 447, 448, 286, 921, 922, 923, 924, 108, 104, 425, 426, 427, 428, 925, 926, 927, 928, 470, 471, 472, 473, 105, 474, 475, 476, 477, 545, 546, 547, 548, 519, 520, 521, 522, 392, 523, 524, 525, 526, 527, 528, 561, 562, 563, 1099, 1100, 1101, 1102, 1103, 1104, 1105, 1106, 1107, 1108, 1109, 1110, 1111, 1112, 1113, 1114, 1115, 1116, 1117, 1118, 1119, 1120, 1121, 1122, 1123, 1124, 1125, 1126, 1127, 1128, 1129, 1130, 1131, 1132, 1133, 1134, 1135, 1136, 1137] (by decide +kernel) (by decide +kernel)
set_option maxRecDepth 20000 in
theorem gL_law_X11_rent : GoodIn wsL_law (wsV RL 134 RX11 yX11_rent wsX11_rent) := goodIn_app (goodIn_of _ (by decide +kernel)) ggL_law_X11_rent
set_option maxRecDepth 20000 in
theorem ggL_law_X10_around : GoodIn wsL_law wsX10_around := goodIn_r _ [932, 19, 35, 401, 402, 403, 18, 404, 352, 137, 138, 2, 139, 933, 934, 935, 34, 936, 93, 937, 938, 939, 940, 941, 942, 509, 500, 510, 943, 381, 382, 383, 944, 945, 946, 947, 948, 949, 950, 951, 952, 953, 954, 955, 956, 957, 410, 411, 412, 55, 56, 958, 611, 612, 613, 959, 960, 961, 962, 963, 964, 965, 966, 1090, 1091, 1092, 1093, 1094, 1095, 1096, 1097, 1098, 1148, 1149, 1150, 1151, 1152, 1153, 1154, 1155, 1156, 1157, 1158, 1159, 1172] (by decide +kernel) (by decide +kernel)
set_option maxRecDepth 20000 in
theorem gL_law_X10_around : GoodIn wsL_law (wsV RL 135 RX10 yX10_around wsX10_around) := goodIn_app (goodIn_of _ (by decide +kernel)) ggL_law_X10_around
set_option maxRecDepth 20000 in
theorem ggL_law_X11_around : GoodIn wsL_law wsX11_around := goodIn_r _ [970, 120, 971, 286, 421, 422, 423, 5, 424, 284, 150, 151, 152, 972, 973, 974, 975, 104, 976, 977, 978, 979, 425, 426, 427, 428, 1099, 1100, 1101, 1102, 1103, 1104, 1105, 1106, 1107, 1108, 1109, 1110, 1111, 1112, 1113, 1114, 1115, 1116, 1117, 1118, 1119, 1120, 1121, 1122, 1123, 1124, 1125, 1126, 1127, 1128, 1129, 1130, 1131, 1132, 1133, 1134, 1135, 1136, 1137] (by decide +kernel) (by decide +kernel)
set_option maxRecDepth 20000 in
theorem gL_law_X11_around : GoodIn wsL_law (wsV RL 138 RX11 yX11_around wsX11_around) := goodIn_app (goodIn_of _ (by decide +kernel)) ggL_law_X11_around
set_option maxRecDepth 20000 in
theorem ggL_law_X10_put : GoodIn wsL_law wsX10_put := goodIn_r _ [983, 31, 342, 137, 138, 2, 139, 984, 985, 986, 30, 987, 988, 87, 1090, 1091, 1092, 1093, 1094, 1095, 1096, 1097, 1098, 1168, 1169, 1170, 1171] (by decide +kernel) (by decide +kernel)
set_option maxRecDepth 20000 in
theorem gL_law_X10_put : GoodIn wsL_law (wsV RL 139 RX10 yX10_put wsX10_put) := goodIn_app (goodIn_of _ (by decide +kernel)) ggL_law_X10_put
set_option maxRecDepth 20000 in
theorem ggL_law_X11_put : GoodIn wsL_law wsX11_put := goodIn_r _ [992, 131, 113, 150, 151, 5, 152, 1099, 1100, 1101, 1102, 1103, 1104, 1105, 1106, 1107, 1108, 1109, 1110, 1111, 1112, 1113, 1114, 1115, 1116, 1117, 1118, 1119, 1120, 1121, 1122, 1123, 1124, 1125, 1126, 1127, 1128, 1129, 1130, 1131, 1132, 1133, 1134, 1135, 1136, 1137] (by decide +kernel) (by decide +kernel)
set_option maxRecDepth 20000 in
theorem gL_law_X11_put : GoodIn wsL_law (wsV RL 142 RX11 yX11_put wsX11_put) := goodIn_app (goodIn_of _ (by decide +kernel)) ggL_law_X11_put
set_option maxRecDepth 20000 in
theorem ggL_law_X10_wipe : GoodIn wsL_law wsX10_wipe := goodIn_r _ [996, 31, 342, 1090, 1091, 1092, 1093, 1094, 1095, 1096, 1097, 1098, 1168, 1169, 1170, 1171] (by decide +kernel) (by decide +kernel)
set_option maxRecDepth 20000 in
theorem gL_law_X10_wipe : GoodIn wsL_law (wsV RL 143 RX10 yX10_wipe wsX10_wipe) := goodIn_app (goodIn_of _ (by decide +kernel)) ggL_law_X10_wipe
set_option maxRecDepth 20000 in
theorem ggL_law_X11_wipe : GoodIn wsL_law wsX11_wipe := goodIn_r _ [1000, 131, 1099, 1100, 1101, 1102, 1103, 1104, 1105, 1106, 1107, 1108, 1109, 1110, 1111, 1112, 1113, 1114, 1115, 1116, 1117, 1118, 1119, 1120, 1121, 1122, 1123, 1124, 1125, 1126, 1127, 1128, 1129, 1130, 1131, 1132, 1133, 1134, 1135, 1136, 1137] (by decide +kernel) (by decide +kernel)
set_option maxRecDepth 20000 in
theorem gL_law_X11_wipe : GoodIn wsL_law (wsV RL 146 RX11 yX11_wipe wsX11_wipe) := goodIn_app (goodIn_of _ (by decide +kernel)) ggL_law_X11_wipe
set_option maxRecDepth 20000 in
theorem ggL_law_X10_pass : GoodIn wsL_law wsX10_pass := goodIn_r _ [1004, 31, 342, 19, 1005, 137, 138, 2, 139, 1006, 1007, 1008, 30, 1009, 988, 88, 87, 89, 1010, 499, 500, 501, 1011, 1012, 496, 1013, 1014, 495, 497, 498, 502, 503, 504, 1015, 506, 507, 508, 509, 510, 1016, 1017, 1018, 1019, 1020, 1021, 1022, 1023, 1024, 1025, 1026, 1027, 1028, 1029, 1030, 1031, 1032, 1033, 1034, 1035, 1036, 1037, 1038, 1090, 1091, 1092, 1093, 1094, 1095, 1096, 1097, 1098, 1168, 1169, 1170, 1171, 1148, 1149, 1150, 1151, 1152, 1153, 1154, 1155, 1156, 1157, 1158, 1159] (by decide +kernel) (by decide +kernel)
set_option maxRecDepth 20000 in
theorem gL_law_X10_pass : GoodIn wsL_law (wsV RL 147 RX10 yX10_pass wsX10_pass) := goodIn_app (goodIn_of _ (by decide +kernel)) ggL_law_X10_pass
set_option maxRecDepth 20000 in
theorem ggL_law_X11_pass : GoodIn wsL_law wsX11_pass := goodIn_r _ [1042, 131, 122, 113, 121, 150, 151, 5, 152, 1043, 1044, 1045, 1046, 519, 520, 521, 522, 392, 523, 524, 525, 526, 527, 528, 1099, 1100, 1101, 1102, 1103, 1104, 1105, 1106, 1107, 1108, 1109, 1110, 1111, 1112, 1113, 1114, 1115, 1116, 1117, 1118, 1119, 1120, 1121, 1122, 1123, 1124, 1125, 1126, 1127, 1128, 1129, 1130, 1131, 1132, 1133, 1134, 1135, 1136, 1137] (by decide +kernel) (by decide +kernel)
set_option maxRecDepth 20000 in
theorem gL_law_X11_pass : GoodIn wsL_law (wsV RL 150 RX11 yX11_pass wsX11_pass) := goodIn_app (goodIn_of _ (by decide +kernel)) ggL_law_X11_pass
set_option maxRecDepth 20000 in
theorem ggL_law_X10_winds : GoodIn wsL_law wsX10_winds := goodIn_r _ [1050, 137, 138, 2, 139, 1051, 1052, 496, 1053, 1054, 1055, 1056, 1057, 1058, 1059, 1060, 1061, 1062, 1063, 1064, 1065, 1012, 1013, 1014, 495, 497, 498, 499, 500, 501, 502, 503, 504, 1015, 506, 507, 508, 509, 510] (by decide +kernel) (by decide +kernel)
set_option maxRecDepth 20000 in
theorem gL_law_X10_winds : GoodIn wsL_law (wsV RL 151 RX10 yX10_winds wsX10_winds) := goodIn_app (goodIn_of _ (by decide +kernel)) ggL_law_X10_winds
set_option maxRecDepth 20000 in
theorem ggL_law_X11_winds : GoodIn wsL_law wsX11_winds := goodIn_r _ [1069, 1070, 1071, 1072, 1073, 150, 151, 5, 152, 523, 524, 525, 526, 527, 528] (by decide +kernel) (by decide +kernel)
set_option maxRecDepth 20000 in
theorem gL_law_X11_winds : GoodIn wsL_law (wsV RL 154 RX11 yX11_winds wsX11_winds) := goodIn_app (goodIn_of _ (by decide +kernel)) ggL_law_X11_winds
set_option maxRecDepth 20000 in
theorem ggL_law_X10_count : GoodIn wsL_law wsX10_count := goodIn_r _ [1077, 19, 804, 867, 400, 1005, 23, 398, 665, 27, 341, 31, 342, 674, 15, 136, 1058, 1059, 1060, 1061, 1062, 1063, 1064, 1078, 1079, 1080, 67, 1081, 78, 1082, 1083, 1084, 1085, 79, 1090, 1091, 1092, 1093, 1094, 1095, 1096, 1097, 1098, 1148, 1149, 1150, 1151, 1152, 1153, 1154, 1155, 1156, 1157, 1158, 1159, 1160, 1161, 1162, 1163, 1164, 1165, 1174, 1175, 1176, 1177, 1178, 1166, 1167, 1168, 1169, 1170, 1171, 1138, 1139, 1140, 1141, 1142, 1143, 1144, 1145, 1146, 1147] (by decide +kernel) (by decide +kernel)
set_option maxRecDepth 20000 in
theorem gL_law_X10_count : GoodIn wsL_law (wsV RL 155 RX10 yX10_count wsX10_count) := goodIn_app (goodIn_of _ (by decide +kernel)) ggL_law_X10_count
set_option maxRecDepth 20000 in
theorem ggL_law_X11_count : GoodIn wsL_law wsX11_count := goodIn_r _ [1089, 128, 108, 284, 286, 130, 131, 129, 149, 519, 520, 521, 5, 522, 392, 1099, 1100, 1101, 1102, 1103, 1104, 1105, 1106, 1107, 1108, 1109, 1110, 1111, 1112, 1113, 1114, 1115, 1116, 1117, 1118, 1119, 1120, 1121, 1122, 1123, 1124, 1125, 1126, 1127, 1128, 1129, 1130, 1131, 1132, 1133, 1134, 1135, 1136, 1137] (by decide +kernel) (by decide +kernel)
set_option maxRecDepth 20000 in
theorem gL_law_X11_count : GoodIn wsL_law (wsV RL 158 RX11 yX11_count wsX11_count) := goodIn_app (goodIn_of _ (by decide +kernel)) ggL_law_X11_count
