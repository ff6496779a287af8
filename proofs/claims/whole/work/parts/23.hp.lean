/-! THE HEAP OF A RUN: which cells there are, and what refers to what (printed by wip/whole/gen23.py); numbers alone change -/
abbrev jev : Type := Nat × Option (Nat × Option Nat)
def lkR : List jev → Nat → Nat → Option Nat
  | [], _, _ => none
  | (c, none) :: us, a, b => if a = c then none else lkR us a b
  | (c, some (i, v)) :: us, a, b => if a = c ∧ b = i then v else lkR us a b
def KL0 : List (Nat × Nat) :=
  [(0, 11), (0, 10), (1, 540), (0, 9), (7, 12), (0, 3), (1, 17), (0, 3), (1, 17), (0, 3), (1, 17), (0, 3), (1, 17), (0, 3), (1, 17), (0, 3), (1, 17), (0, 3), (1, 17), (0, 3), (1, 17), (0, 3), (1, 17), (0, 3),
   (1, 17), (0, 3), (1, 17), (0, 3), (1, 17), (1, 8), (7, 16), (0, 3), (1, 17), (0, 3), (1, 17), (0, 3), (1, 17), (0, 3), (1, 17), (0, 3), (1, 17), (0, 3), (1, 17), (0, 3), (1, 17), (0, 3), (1, 17), (0, 3),
   (1, 17), (0, 3), (1, 17), (0, 3), (1, 17), (0, 3), (1, 17), (0, 3), (1, 17), (0, 3), (1, 17), (0, 3), (1, 17), (0, 3), (1, 17), (1, 16), (13, 2), (2, 2), (7, 4), (0, 3), (1, 17), (0, 3), (1, 17), (0, 3),
   (1, 17), (0, 3), (1, 17), (0, 6), (0, 0), (1, 512), (1, 256), (1, 256), (1, 256), (0, 3), (1, 17), (0, 3), (1, 17), (0, 3), (1, 17), (0, 3), (1, 17), (0, 3), (1, 17), (0, 3), (1, 17), (0, 3), (1, 17), (0, 3),
   (1, 17), (0, 3), (1, 17), (0, 3), (1, 17), (0, 3), (1, 17), (0, 3), (1, 17), (0, 3), (1, 17), (0, 3), (1, 17), (0, 3), (1, 17), (0, 4), (0, 9), (7, 12), (0, 3), (1, 17), (0, 3), (1, 17), (0, 3), (1, 17),
   (0, 3), (1, 17), (0, 3), (1, 17), (0, 3), (1, 17), (0, 3), (1, 17), (0, 3), (1, 17), (0, 3), (1, 17), (0, 3), (1, 17), (0, 3), (1, 17), (0, 3), (1, 17), (1, 8), (7, 16), (0, 3), (1, 17), (0, 3), (1, 17),
   (0, 3), (1, 17), (0, 3), (1, 17), (0, 3), (1, 17), (0, 3), (1, 17), (0, 3), (1, 17), (0, 3), (1, 17), (0, 3), (1, 17), (0, 3), (1, 17), (0, 3), (1, 17), (0, 3), (1, 17), (0, 3), (1, 17), (0, 3), (1, 17),
   (0, 3), (1, 17), (0, 3), (1, 17), (1, 16), (0, 6), (0, 0), (1, 512), (1, 256), (1, 256), (1, 256), (0, 3), (1, 17), (0, 3), (1, 17), (0, 3), (1, 17), (0, 3), (1, 17), (0, 3), (1, 17), (0, 3), (1, 17), (0, 3),
   (1, 17), (0, 3), (1, 17), (0, 3), (1, 17), (0, 3), (1, 17), (0, 3), (1, 17), (0, 3), (1, 17), (0, 3), (1, 17), (0, 3), (1, 17), (0, 3), (1, 17), (1, 12), (5, 7), (0, 3), (1, 17), (0, 3), (1, 17), (1, 540),
   (0, 1), (0, 3), (1, 17), (0, 3), (1, 17), (0, 3), (1, 17), (0, 3), (1, 17), (0, 1), (0, 3), (1, 17), (0, 3), (1, 17), (0, 3), (1, 17), (0, 3), (1, 17), (0, 1), (0, 3), (1, 17), (0, 3), (1, 17), (0, 3),
   (1, 17), (0, 3), (1, 17), (0, 1), (0, 3), (1, 17), (0, 3), (1, 17), (0, 3), (1, 17), (0, 3), (1, 17), (0, 1), (0, 3), (1, 17), (0, 3), (1, 17), (0, 3), (1, 17), (0, 3), (1, 17), (0, 1), (0, 3), (1, 17),
   (0, 3), (1, 17), (0, 3), (1, 17), (0, 3), (1, 17), (0, 1), (0, 3), (1, 17), (0, 3), (1, 17), (0, 3), (1, 17), (0, 3), (1, 17), (0, 8), (0, 3), (1, 17), (0, 3), (1, 17), (0, 3), (1, 17), (7, 7), (0, 3),
   (1, 17), (0, 3), (1, 17), (0, 3), (1, 17), (0, 3), (1, 17), (0, 3), (1, 17), (0, 3), (1, 17), (0, 3), (1, 17), (1, 7), (0, 7), (3, 12), (1, 8), (1, 17), (0, 2), (7, 16), (0, 3), (1, 17), (0, 3), (1, 17),
   (0, 3), (1, 17), (0, 3), (1, 17), (0, 3), (1, 17), (0, 3), (1, 17), (0, 3), (1, 17), (0, 3), (1, 17), (0, 3), (1, 17), (0, 3), (1, 17), (0, 3), (1, 17), (0, 3), (1, 17), (0, 3), (1, 17), (0, 3), (1, 17),
   (0, 3), (1, 17), (0, 3), (1, 17), (0, 3), (1, 17), (1, 17), (0, 5), (1, 17), (104, 16), (1, 17), (1, 17), (1, 17), (1, 17), (1, 17), (1, 17), (1, 17), (1, 17), (1, 17), (1, 17), (1, 17), (1, 17), (1, 17), (1, 17),
   (1, 17), (1, 17), (1, 17), (0, 3), (1, 17), (2, 256), (0, 9), (7, 12), (0, 3), (1, 17), (0, 3), (1, 17), (0, 3), (1, 17), (0, 3), (1, 17), (0, 3), (1, 17), (0, 3), (1, 17), (0, 3), (1, 17), (0, 3), (1, 17),
   (0, 3), (1, 17), (0, 3), (1, 17), (0, 3), (1, 17), (0, 3), (1, 17), (1, 8), (7, 16), (0, 3), (1, 17), (0, 3), (1, 17), (0, 3), (1, 17), (0, 3), (1, 17), (0, 3), (1, 17), (0, 3), (1, 17), (0, 3), (1, 17),
   (0, 3), (1, 17), (0, 3), (1, 17), (0, 3), (1, 17), (0, 3), (1, 17), (0, 3), (1, 17), (0, 3), (1, 17), (0, 3), (1, 17), (0, 3), (1, 17), (0, 3), (1, 17), (1, 16), (0, 9), (7, 12), (0, 3), (1, 17), (0, 3),
   (1, 17), (0, 3), (1, 17), (0, 3), (1, 17), (0, 3), (1, 17), (0, 3), (1, 17), (0, 3), (1, 17), (0, 3), (1, 17), (0, 3), (1, 17), (0, 3), (1, 17), (0, 3), (1, 17), (0, 3), (1, 17), (1, 8), (7, 16), (0, 3),
   (1, 17), (0, 3), (1, 17), (0, 3), (1, 17), (0, 3), (1, 17), (0, 3), (1, 17), (0, 3), (1, 17), (0, 3), (1, 17), (0, 3), (1, 17), (0, 3), (1, 17), (0, 3), (1, 17), (0, 3), (1, 17), (0, 3), (1, 17), (0, 3),
   (1, 17), (0, 3), (1, 17), (0, 3), (1, 17), (0, 3), (1, 17), (1, 16)]
def KLm : List (Nat × Nat) :=
  [(0, 12), (1, 540), (1, 508), (1, 220), (1, 1016), (3, 12), (3, 12), (3, 24), (2, 2), (1, 17), (1, 17), (1, 17), (1, 289), (1, 17), (1, 17), (1, 17), (1, 17), (1, 17), (1, 17), (1, 17), (1, 17), (1, 17), (1, 17), (1, 17),
   (1, 17), (1, 17), (1, 816), (1, 17), (1, 17), (1, 17), (1, 68), (2, 256), (1, 32), (1, 17), (1, 136), (1, 17), (1, 8), (1, 17), (1, 17), (1, 17), (1, 17), (1, 272), (1, 17), (1, 17), (1, 17), (1, 8), (1, 8), (1, 8),
   (1, 272), (1, 17), (1, 17), (3, 1)]
def UL0 : List jev :=
  [(64, some (1, some 427)), (427, some (10, some 487)), (487, none), (427, some (9, some 454)), (454, some (15, some 485)), (485, some (0, some 486)), (486, none), (485, none), (454, some (14, some 483)), (483, some (0, some 484)), (484, none), (483, none),
   (454, some (13, some 481)), (481, some (0, some 482)), (482, none), (481, none), (454, some (12, some 479)), (479, some (0, some 480)), (480, none), (479, none), (454, some (11, some 477)), (477, some (0, some 478)), (478, none), (477, none),
   (454, some (10, some 475)), (475, some (0, some 476)), (476, none), (475, none), (454, some (9, some 473)), (473, some (0, some 474)), (474, none), (473, none), (454, some (8, some 471)), (471, some (0, some 472)), (472, none), (471, none),
   (454, some (7, some 469)), (469, some (0, some 470)), (470, none), (469, none), (454, some (6, some 467)), (467, some (0, some 468)), (468, none), (467, none), (454, some (5, some 465)), (465, some (0, some 466)), (466, none), (465, none),
   (454, some (4, some 463)), (463, some (0, some 464)), (464, none), (463, none), (454, some (3, some 461)), (461, some (0, some 462)), (462, none), (461, none), (454, some (2, some 459)), (459, some (0, some 460)), (460, none), (459, none),
   (454, some (1, some 457)), (457, some (0, some 458)), (458, none), (457, none), (454, some (0, some 455)), (455, some (0, some 456)), (456, none), (455, none), (454, none), (427, some (8, some 453)), (453, none), (427, some (7, some 428)),
   (428, some (11, some 451)), (451, some (0, some 452)), (452, none), (451, none), (428, some (10, some 449)), (449, some (0, some 450)), (450, none), (449, none), (428, some (9, some 447)), (447, some (0, some 448)), (448, none), (447, none),
   (428, some (8, some 445)), (445, some (0, some 446)), (446, none), (445, none), (428, some (7, some 443)), (443, some (0, some 444)), (444, none), (443, none), (428, some (6, some 441)), (441, some (0, some 442)), (442, none), (441, none),
   (428, some (5, some 439)), (439, some (0, some 440)), (440, none), (439, none), (428, some (4, some 437)), (437, some (0, some 438)), (438, none), (437, none), (428, some (3, some 435)), (435, some (0, some 436)), (436, none), (435, none),
   (428, some (2, some 433)), (433, some (0, some 434)), (434, none), (433, none), (428, some (1, some 431)), (431, some (0, some 432)), (432, none), (431, none), (428, some (0, some 429)), (429, some (0, some 430)), (430, none), (429, none),
   (428, none), (427, none), (64, some (0, some 366)), (366, some (10, some 426)), (426, none), (366, some (9, some 393)), (393, some (15, some 424)), (424, some (0, some 425)), (425, none), (424, none), (393, some (14, some 422)), (422, some (0, some 423)),
   (423, none), (422, none), (393, some (13, some 420)), (420, some (0, some 421)), (421, none), (420, none), (393, some (12, some 418)), (418, some (0, some 419)), (419, none), (418, none), (393, some (11, some 416)), (416, some (0, some 417)),
   (417, none), (416, none), (393, some (10, some 414)), (414, some (0, some 415)), (415, none), (414, none), (393, some (9, some 412)), (412, some (0, some 413)), (413, none), (412, none), (393, some (8, some 410)), (410, some (0, some 411)),
   (411, none), (410, none), (393, some (7, some 408)), (408, some (0, some 409)), (409, none), (408, none), (393, some (6, some 406)), (406, some (0, some 407)), (407, none), (406, none), (393, some (5, some 404)), (404, some (0, some 405)),
   (405, none), (404, none), (393, some (4, some 402)), (402, some (0, some 403)), (403, none), (402, none), (393, some (3, some 400)), (400, some (0, some 401)), (401, none), (400, none), (393, some (2, some 398)), (398, some (0, some 399)),
   (399, none), (398, none), (393, some (1, some 396)), (396, some (0, some 397)), (397, none), (396, none), (393, some (0, some 394)), (394, some (0, some 395)), (395, none), (394, none), (393, none), (366, some (8, some 392)),
   (392, none), (366, some (7, some 367)), (367, some (11, some 390)), (390, some (0, some 391)), (391, none), (390, none), (367, some (10, some 388)), (388, some (0, some 389)), (389, none), (388, none), (367, some (9, some 386)), (386, some (0, some 387)),
   (387, none), (386, none), (367, some (8, some 384)), (384, some (0, some 385)), (385, none), (384, none), (367, some (7, some 382)), (382, some (0, some 383)), (383, none), (382, none), (367, some (6, some 380)), (380, some (0, some 381)),
   (381, none), (380, none), (367, some (5, some 378)), (378, some (0, some 379)), (379, none), (378, none), (367, some (4, some 376)), (376, some (0, some 377)), (377, none), (376, none), (367, some (3, some 374)), (374, some (0, some 375)),
   (375, none), (374, none), (367, some (2, some 372)), (372, some (0, some 373)), (373, none), (372, none), (367, some (1, some 370)), (370, some (0, some 371)), (371, none), (370, none), (367, some (0, some 368)), (368, some (0, some 369)),
   (369, none), (368, none), (367, none), (366, none), (0, some (12, some 365)), (365, none), (0, some (11, some 363)), (363, some (0, some 364)), (364, none), (363, none), (0, some (10, some 343)), (343, some (3, some 362)),
   (362, none), (343, some (2, some 345)), (345, some (15, some 361)), (361, none), (345, some (14, some 360)), (360, none), (345, some (13, some 359)), (359, none), (345, some (12, some 358)), (358, none), (345, some (11, some 357)), (357, none),
   (345, some (10, some 356)), (356, none), (345, some (9, some 355)), (355, none), (345, some (8, some 354)), (354, none), (345, some (7, some 353)), (353, none), (345, some (6, some 352)), (352, none), (345, some (5, some 351)), (351, none),
   (345, some (4, some 350)), (350, none), (345, some (3, some 349)), (349, none), (345, some (2, some 348)), (348, none), (345, some (1, some 347)), (347, none), (345, some (0, some 346)), (346, none), (345, none), (343, some (0, some 344)),
   (344, none), (343, none), (0, some (9, some 306)), (306, some (2, some 342)), (342, none), (306, some (1, some 340)), (340, some (0, some 341)), (341, none), (340, none), (306, some (0, some 307)), (307, some (15, some 338)), (338, some (0, some 339)),
   (339, none), (338, none), (307, some (14, some 336)), (336, some (0, some 337)), (337, none), (336, none), (307, some (13, some 334)), (334, some (0, some 335)), (335, none), (334, none), (307, some (12, some 332)), (332, some (0, some 333)),
   (333, none), (332, none), (307, some (11, some 330)), (330, some (0, some 331)), (331, none), (330, none), (307, some (10, some 328)), (328, some (0, some 329)), (329, none), (328, none), (307, some (9, some 326)), (326, some (0, some 327)),
   (327, none), (326, none), (307, some (8, some 324)), (324, some (0, some 325)), (325, none), (324, none), (307, some (7, some 322)), (322, some (0, some 323)), (323, none), (322, none), (307, some (6, some 320)), (320, some (0, some 321)),
   (321, none), (320, none), (307, some (5, some 318)), (318, some (0, some 319)), (319, none), (318, none), (307, some (4, some 316)), (316, some (0, some 317)), (317, none), (316, none), (307, some (3, some 314)), (314, some (0, some 315)),
   (315, none), (314, none), (307, some (2, some 312)), (312, some (0, some 313)), (313, none), (312, none), (307, some (1, some 310)), (310, some (0, some 311)), (311, none), (310, none), (307, some (0, some 308)), (308, some (0, some 309)),
   (309, none), (308, none), (307, none), (306, none), (0, some (8, some 302)), (302, some (2, some 305)), (305, none), (302, some (1, some 304)), (304, none), (302, some (0, some 303)), (303, none), (302, none),
   (0, some (7, some 279)), (279, some (4, some 301)), (301, none), (279, some (3, some 286)), (286, some (6, some 299)), (299, some (0, some 300)), (300, none), (299, none), (286, some (5, some 297)), (297, some (0, some 298)), (298, none), (297, none),
   (286, some (4, some 295)), (295, some (0, some 296)), (296, none), (295, none), (286, some (3, some 293)), (293, some (0, some 294)), (294, none), (293, none), (286, some (2, some 291)), (291, some (0, some 292)), (292, none), (291, none),
   (286, some (1, some 289)), (289, some (0, some 290)), (290, none), (289, none), (286, some (0, some 287)), (287, some (0, some 288)), (288, none), (287, none), (286, none), (279, some (2, some 284)), (284, some (0, some 285)), (285, none),
   (284, none), (279, some (1, some 282)), (282, some (0, some 283)), (283, none), (282, none), (279, some (0, some 280)), (280, some (0, some 281)), (281, none), (280, none), (279, none), (0, some (6, some 111)), (210, some (6, some 270)),
   (270, some (3, some 277)), (277, some (0, some 278)), (278, none), (277, none), (270, some (2, some 275)), (275, some (0, some 276)), (276, none), (275, none), (270, some (1, some 273)), (273, some (0, some 274)), (274, none), (273, none),
   (270, some (0, some 271)), (271, some (0, some 272)), (272, none), (271, none), (270, none), (210, some (5, some 261)), (261, some (3, some 268)), (268, some (0, some 269)), (269, none), (268, none), (261, some (2, some 266)), (266, some (0, some 267)),
   (267, none), (266, none), (261, some (1, some 264)), (264, some (0, some 265)), (265, none), (264, none), (261, some (0, some 262)), (262, some (0, some 263)), (263, none), (262, none), (261, none), (210, some (4, some 252)),
   (252, some (3, some 259)), (259, some (0, some 260)), (260, none), (259, none), (252, some (2, some 257)), (257, some (0, some 258)), (258, none), (257, none), (252, some (1, some 255)), (255, some (0, some 256)), (256, none), (255, none),
   (252, some (0, some 253)), (253, some (0, some 254)), (254, none), (253, none), (252, none), (210, some (3, some 243)), (243, some (3, some 250)), (250, some (0, some 251)), (251, none), (250, none), (243, some (2, some 248)), (248, some (0, some 249)),
   (249, none), (248, none), (243, some (1, some 246)), (246, some (0, some 247)), (247, none), (246, none), (243, some (0, some 244)), (244, some (0, some 245)), (245, none), (244, none), (243, none), (210, some (2, some 234)),
   (234, some (3, some 241)), (241, some (0, some 242)), (242, none), (241, none), (234, some (2, some 239)), (239, some (0, some 240)), (240, none), (239, none), (234, some (1, some 237)), (237, some (0, some 238)), (238, none), (237, none),
   (234, some (0, some 235)), (235, some (0, some 236)), (236, none), (235, none), (234, none), (210, some (1, some 225)), (225, some (3, some 232)), (232, some (0, some 233)), (233, none), (232, none), (225, some (2, some 230)), (230, some (0, some 231)),
   (231, none), (230, none), (225, some (1, some 228)), (228, some (0, some 229)), (229, none), (228, none), (225, some (0, some 226)), (226, some (0, some 227)), (227, none), (226, none), (225, none), (210, some (0, some 216)),
   (216, some (3, some 223)), (223, some (0, some 224)), (224, none), (223, none), (216, some (2, some 221)), (221, some (0, some 222)), (222, none), (221, none), (216, some (1, some 219)), (219, some (0, some 220)), (220, none), (219, none),
   (216, some (0, some 217)), (217, some (0, some 218)), (218, none), (217, none), (216, none), (111, some (9, some 215)), (215, none), (111, some (8, some 213)), (213, some (0, some 214)), (214, none), (213, none), (111, some (7, some 211)),
   (211, some (0, some 212)), (212, none), (211, none), (111, some (6, some 210)), (210, none), (111, some (5, some 209)), (209, none), (111, some (4, some 173)), (173, some (16, some 207)), (207, some (0, some 208)), (208, none), (207, none),
   (173, some (15, some 205)), (205, some (0, some 206)), (206, none), (205, none), (173, some (14, some 203)), (203, some (0, some 204)), (204, none), (203, none), (173, some (13, some 201)), (201, some (0, some 202)), (202, none), (201, none),
   (173, some (12, some 199)), (199, some (0, some 200)), (200, none), (199, none), (173, some (11, some 197)), (197, some (0, some 198)), (198, none), (197, none), (173, some (10, some 195)), (195, some (0, some 196)), (196, none), (195, none),
   (173, some (9, some 193)), (193, some (0, some 194)), (194, none), (193, none), (173, some (8, some 191)), (191, some (0, some 192)), (192, none), (191, none), (173, some (7, some 189)), (189, some (0, some 190)), (190, none), (189, none),
   (173, some (6, some 187)), (187, some (0, some 188)), (188, none), (187, none), (173, some (4, some 185)), (185, some (0, some 186)), (186, none), (185, none), (173, some (3, some 183)), (183, some (0, some 184)), (184, none), (183, none),
   (173, some (2, some 181)), (181, some (0, some 182)), (182, none), (181, none), (173, some (1, some 179)), (179, some (0, some 180)), (180, none), (179, none), (173, some (0, some 174)), (174, some (9, some 178)), (178, none), (174, some (8, some 177)),
   (177, none), (174, some (7, some 176)), (176, none), (174, some (6, some 175)), (175, none), (174, none), (173, none), (111, some (0, some 112)), (112, some (10, some 172)), (172, none), (112, some (9, some 139)), (139, some (15, some 170)),
   (170, some (0, some 171)), (171, none), (170, none), (139, some (14, some 168)), (168, some (0, some 169)), (169, none), (168, none), (139, some (13, some 166)), (166, some (0, some 167)), (167, none), (166, none), (139, some (12, some 164)),
   (164, some (0, some 165)), (165, none), (164, none), (139, some (11, some 162)), (162, some (0, some 163)), (163, none), (162, none), (139, some (10, some 160)), (160, some (0, some 161)), (161, none), (160, none), (139, some (9, some 158)),
   (158, some (0, some 159)), (159, none), (158, none), (139, some (8, some 156)), (156, some (0, some 157)), (157, none), (156, none), (139, some (7, some 154)), (154, some (0, some 155)), (155, none), (154, none), (139, some (6, some 152)),
   (152, some (0, some 153)), (153, none), (152, none), (139, some (5, some 150)), (150, some (0, some 151)), (151, none), (150, none), (139, some (4, some 148)), (148, some (0, some 149)), (149, none), (148, none), (139, some (3, some 146)),
   (146, some (0, some 147)), (147, none), (146, none), (139, some (2, some 144)), (144, some (0, some 145)), (145, none), (144, none), (139, some (1, some 142)), (142, some (0, some 143)), (143, none), (142, none), (139, some (0, some 140)),
   (140, some (0, some 141)), (141, none), (140, none), (139, none), (112, some (8, some 138)), (138, none), (112, some (7, some 113)), (113, some (11, some 136)), (136, some (0, some 137)), (137, none), (136, none), (113, some (10, some 134)),
   (134, some (0, some 135)), (135, none), (134, none), (113, some (9, some 132)), (132, some (0, some 133)), (133, none), (132, none), (113, some (8, some 130)), (130, some (0, some 131)), (131, none), (130, none), (113, some (7, some 128)),
   (128, some (0, some 129)), (129, none), (128, none), (113, some (6, some 126)), (126, some (0, some 127)), (127, none), (126, none), (113, some (5, some 124)), (124, some (0, some 125)), (125, none), (124, none), (113, some (4, some 122)),
   (122, some (0, some 123)), (123, none), (122, none), (113, some (3, some 120)), (120, some (0, some 121)), (121, none), (120, none), (113, some (2, some 118)), (118, some (0, some 119)), (119, none), (118, none), (113, some (1, some 116)),
   (116, some (0, some 117)), (117, none), (116, none), (113, some (0, some 114)), (114, some (0, some 115)), (115, none), (114, none), (113, none), (112, none), (111, none), (0, some (5, some 75)), (75, some (16, some 109)),
   (109, some (0, some 110)), (110, none), (109, none), (75, some (15, some 107)), (107, some (0, some 108)), (108, none), (107, none), (75, some (14, some 105)), (105, some (0, some 106)), (106, none), (105, none), (75, some (13, some 103)),
   (103, some (0, some 104)), (104, none), (103, none), (75, some (12, some 101)), (101, some (0, some 102)), (102, none), (101, none), (75, some (11, some 99)), (99, some (0, some 100)), (100, none), (99, none), (75, some (10, some 97)),
   (97, some (0, some 98)), (98, none), (97, none), (75, some (9, some 95)), (95, some (0, some 96)), (96, none), (95, none), (75, some (8, some 93)), (93, some (0, some 94)), (94, none), (93, none), (75, some (7, some 91)),
   (91, some (0, some 92)), (92, none), (91, none), (75, some (6, some 89)), (89, some (0, some 90)), (90, none), (89, none), (75, some (4, some 87)), (87, some (0, some 88)), (88, none), (87, none), (75, some (3, some 85)),
   (85, some (0, some 86)), (86, none), (85, none), (75, some (2, some 83)), (83, some (0, some 84)), (84, none), (83, none), (75, some (1, some 81)), (81, some (0, some 82)), (82, none), (81, none), (75, some (0, some 76)),
   (76, some (9, some 80)), (80, none), (76, some (8, some 79)), (79, none), (76, some (7, some 78)), (78, none), (76, some (6, some 77)), (77, none), (76, none), (75, none), (0, some (4, some 66)), (66, some (3, some 73)),
   (73, some (0, some 74)), (74, none), (73, none), (66, some (2, some 71)), (71, some (0, some 72)), (72, none), (71, none), (66, some (1, some 69)), (69, some (0, some 70)), (70, none), (69, none), (66, some (0, some 67)),
   (67, some (0, some 68)), (68, none), (67, none), (66, none), (0, some (3, some 65)), (65, none), (0, some (2, some 64)), (64, none), (0, some (1, some 3)), (3, some (10, some 63)), (63, none), (3, some (9, some 30)),
   (30, some (15, some 61)), (61, some (0, some 62)), (62, none), (61, none), (30, some (14, some 59)), (59, some (0, some 60)), (60, none), (59, none), (30, some (13, some 57)), (57, some (0, some 58)), (58, none), (57, none),
   (30, some (12, some 55)), (55, some (0, some 56)), (56, none), (55, none), (30, some (11, some 53)), (53, some (0, some 54)), (54, none), (53, none), (30, some (10, some 51)), (51, some (0, some 52)), (52, none), (51, none),
   (30, some (9, some 49)), (49, some (0, some 50)), (50, none), (49, none), (30, some (8, some 47)), (47, some (0, some 48)), (48, none), (47, none), (30, some (7, some 45)), (45, some (0, some 46)), (46, none), (45, none),
   (30, some (6, some 43)), (43, some (0, some 44)), (44, none), (43, none), (30, some (5, some 41)), (41, some (0, some 42)), (42, none), (41, none), (30, some (4, some 39)), (39, some (0, some 40)), (40, none), (39, none),
   (30, some (3, some 37)), (37, some (0, some 38)), (38, none), (37, none), (30, some (2, some 35)), (35, some (0, some 36)), (36, none), (35, none), (30, some (1, some 33)), (33, some (0, some 34)), (34, none), (33, none),
   (30, some (0, some 31)), (31, some (0, some 32)), (32, none), (31, none), (30, none), (3, some (8, some 29)), (29, none), (3, some (7, some 4)), (4, some (11, some 27)), (27, some (0, some 28)), (28, none), (27, none),
   (4, some (10, some 25)), (25, some (0, some 26)), (26, none), (25, none), (4, some (9, some 23)), (23, some (0, some 24)), (24, none), (23, none), (4, some (8, some 21)), (21, some (0, some 22)), (22, none), (21, none),
   (4, some (7, some 19)), (19, some (0, some 20)), (20, none), (19, none), (4, some (6, some 17)), (17, some (0, some 18)), (18, none), (17, none), (4, some (5, some 15)), (15, some (0, some 16)), (16, none), (15, none),
   (4, some (4, some 13)), (13, some (0, some 14)), (14, none), (13, none), (4, some (3, some 11)), (11, some (0, some 12)), (12, none), (11, none), (4, some (2, some 9)), (9, some (0, some 10)), (10, none), (9, none),
   (4, some (1, some 7)), (7, some (0, some 8)), (8, none), (7, none), (4, some (0, some 5)), (5, some (0, some 6)), (6, none), (5, none), (4, none), (3, none), (0, some (0, some 1)), (1, some (0, some 2)),
   (2, none), (1, none), (0, none)]
def ULm : List jev :=
  [(539, none), (488, some (70, some 538)), (538, none), (488, some (68, some 537)), (537, none), (488, some (67, some 536)), (536, none), (488, some (66, some 535)), (535, none), (488, some (65, some 534)), (534, none), (488, some (64, some 533)),
   (533, none), (488, some (63, some 532)), (532, none), (488, some (62, some 531)), (531, none), (488, some (61, some 530)), (530, none), (488, some (60, some 529)), (529, none), (488, some (59, some 528)), (528, none), (488, some (58, some 527)),
   (527, none), (488, some (57, some 526)), (526, none), (488, some (56, some 525)), (525, none), (488, some (53, some 524)), (524, none), (488, some (52, some 523)), (523, none), (488, some (51, some 522)), (522, none), (488, some (50, some 521)),
   (521, none), (488, some (49, some 520)), (520, none), (488, some (48, some 519)), (519, none), (488, some (47, some 518)), (518, none), (488, some (43, some 517)), (517, none), (488, some (42, some 516)), (516, none), (488, some (41, some 515)),
   (515, none), (488, some (40, some 514)), (514, none), (488, some (30, some 513)), (513, none), (488, some (29, some 512)), (512, none), (488, some (28, some 511)), (511, none), (488, some (27, some 510)), (510, none), (488, some (26, some 509)),
   (509, none), (488, some (25, some 508)), (508, none), (488, some (24, some 507)), (507, none), (488, some (23, some 506)), (506, none), (488, some (22, some 505)), (505, none), (488, some (21, some 504)), (504, none), (488, some (20, some 503)),
   (503, none), (488, some (19, some 502)), (502, none), (488, some (18, some 501)), (501, none), (488, some (17, some 500)), (500, none), (488, some (16, some 499)), (499, none), (488, some (15, some 498)), (498, none), (488, some (14, some 497)),
   (497, none), (488, some (9, some 496)), (496, none), (488, some (8, some 495)), (495, none), (488, some (7, some 494)), (494, none), (488, some (6, some 493)), (493, none), (488, some (5, some 492)), (492, none), (488, some (4, some 491)),
   (491, none), (488, some (3, some 490)), (490, none), (488, some (1, some 489)), (489, none), (488, none)]
def PLs : List Nat := [5, 7, 9, 11, 13, 15, 17, 19, 21, 23, 25, 27, 31, 33, 35, 37, 39, 41, 43, 45, 47, 49, 51, 53, 55, 57, 59, 61, 67, 69, 71, 73, 81, 83, 85, 87, 89, 91, 93, 95, 97, 99, 101, 103, 105, 107, 109, 114, 116, 118, 120, 122, 124, 126, 128, 130, 132, 134, 136, 140, 142, 144, 146, 148, 150, 152, 154, 156, 158, 160, 162, 164, 166, 168, 170, 179, 181, 183, 185, 187, 189, 191, 193, 195, 197, 199, 201, 203, 205, 207, 211, 213, 217, 219, 221, 223, 226, 228, 230, 232, 235, 237, 239, 241, 244, 246, 248, 250, 253, 255, 257, 259, 262, 264, 266, 268, 271, 273, 275, 277, 280, 282, 284, 287, 289, 291, 293, 295, 297, 299, 308, 310, 312, 314, 316, 318, 320, 322, 324, 326, 328, 330, 332, 334, 336, 338, 340, 363, 368, 370, 372, 374, 376, 378, 380, 382, 384, 386, 388, 390, 394, 396, 398, 400, 402, 404, 406, 408, 410, 412, 414, 416, 418, 420, 422, 424, 429, 431, 433, 435, 437, 439, 441, 443, 445, 447, 449, 451, 455, 457, 459, 461, 463, 465, 467, 469, 471, 473, 475, 477, 479, 481, 483, 485]
abbrev jD : Type := Nat → Nat → Int
abbrev jw : Type := Nat × (Nat → Nat) × Nat × (Nat → Nat → Int)
def KQ (q x : Nat) : List (Nat × Nat) := KL0 ++ (if q = 0 then [] else KLm ++ List.replicate x (0, 14))
def RQ (q : Nat) (a b : Nat) : Option Nat := if q = 0 then lkR UL0 a b else lkR (ULm ++ UL0) a b
/-- a heap of a run: how far it is built, the order of the register's rows, exceptions made, longs; and the ints -/
def hp (ω : jw) (D : jD) : jh := (KQ ω.1 ω.2.2.1, fun a b => if a = 345 ∧ b < 16 then some (346 + ω.2.1 b) else RQ ω.1 a b, D, ω.2.2.2)
def sD (D : jD) (c i : Nat) (v : Int) : jD := fun a b => if a = c ∧ b = i then v else D a b
theorem KL0_len : KL0.length = 488 := by decide +kernel
theorem hK {ω : jw} {D : jD} {c : Nat} {k : Nat × Nat} (h : KL0[c]? = some k) : gK (hp ω D) c = some k := by
  show (KQ ω.1 ω.2.2.1)[c]? = some k
  unfold KQ
  rw [List.getElem?_append_left, h]
  exact (List.getElem?_eq_some_iff.mp h).1
def RF (c i v : Nat) : Prop := (c ≠ 345 ∨ 16 ≤ i) ∧ lkR UL0 c i = some v ∧ lkR (ULm ++ UL0) c i = some v
theorem hR {ω : jw} {D : jD} {c i v : Nat} (h : RF c i v) : gR (hp ω D) c i = some v := by
  show (if c = 345 ∧ i < 16 then some (346 + ω.2.1 i) else RQ ω.1 c i) = some v
  rw [if_neg (by have := h.1; omega)]
  unfold RQ
  split
  · exact h.2.1
  · exact h.2.2
theorem hR345 {ω : jw} {D : jD} {i : Nat} (h : i < 16) : gR (hp ω D) 345 i = some (346 + ω.2.1 i) := if_pos ⟨rfl, h⟩
theorem hD {ω : jw} {D : jD} {c i : Nat} : gD (hp ω D) c i = D c i := rfl
theorem hL {ω : jw} {D : jD} {c i : Nat} : gL (hp ω D) c i = ω.2.2.2 c i := rfl
theorem hwD {ω : jw} {D : jD} {c i : Nat} {x : Int} : wD (hp ω D) c i x = hp ω (sD D c i x) := rfl
def sL (ω : jw) (c i : Nat) (x : Int) : jw := (ω.1, ω.2.1, ω.2.2.1, fun a b => if a = c ∧ b = i then x else ω.2.2.2 a b)
theorem hwL {ω : jw} {D : jD} {c i : Nat} {x : Int} : wL (hp ω D) c i x = hp (sL ω c i x) D := rfl
section HPA
variable {ω : jw} {D : jD} {α : Type} {o c n ci : Nat} {i x : Int}
theorem aGF (h : KL0[o]? = some (0, ci)) (k : Nat → Option α) : vGF (hp ω D) (some o) ci k = k o := if_pos (hK h)
theorem aIA (h : KL0[c]? = some (1, n)) (k : Int → Option α) : vIA (hp ω D) (some c) i k = if 0 ≤ i ∧ i < n then k (D c i.toNat) else none := by
  unfold vIA; simp only [hK h]; rfl
theorem aBA (h : KL0[c]? = some (2, n)) (k : Int → Option α) : vBA (hp ω D) (some c) i k = if 0 ≤ i ∧ i < n then k (D c i.toNat) else none := by
  unfold vBA; simp only [hK h]; rfl
theorem aLA (h : KL0[c]? = some (3, n)) (k : Int → Option α) : vLA (hp ω D) (some c) i k = if 0 ≤ i ∧ i < n then k (ω.2.2.2 c i.toNat) else none := by
  unfold vLA; simp only [hK h]; rfl
theorem aAA {t : Nat} (h : KL0[c]? = some (t + 4, n)) (k : Option Nat → Option α) : vAA (hp ω D) (some c) i k = if 0 ≤ i ∧ i < n then k (gR (hp ω D) c i.toNat) else none := by
  unfold vAA; simp only [hK h]
theorem aIS (h : KL0[c]? = some (1, n)) (k : jh → Option α) : vIS (hp ω D) (some c) i x k = if 0 ≤ i ∧ i < n then k (hp ω (sD D c i.toNat x)) else none := by
  unfold vIS; simp only [hK h]; rfl
theorem aBS (h : KL0[c]? = some (2, n)) (k : jh → Option α) : vBS (hp ω D) (some c) i x k = if 0 ≤ i ∧ i < n then (if x = 0 ∨ x = 1 then k (hp ω (sD D c i.toNat x)) else none) else none := by
  unfold vBS; simp only [hK h]; rfl
theorem aLS (h : KL0[c]? = some (3, n)) (k : jh → Option α) : vLS (hp ω D) (some c) i x k = if 0 ≤ i ∧ i < n then k (hp (sL ω c i.toNat x) D) else none := by
  unfold vLS; simp only [hK h]; rfl
theorem aLN {t : Nat} (h : KL0[c]? = some (t + 1, n)) (k : Int → Option α) : vLN (hp ω D) (some c) k = k (n : Int) := by
  unfold vLN; simp only [hK h]
theorem aVC {r : Option jv} {h : jh} (k : Option jv → jh → Option jr) : vC (some ((0, r), h)) k = k r h := rfl
theorem aLt (v : jh) (k : jh → Option α) : vLt v k = k v := rfl
theorem aZ0 (k : Option jr) : vZ 0 k = k := rfl
theorem aZ1 (k : Option jr) : vZ 1 k = k := rfl
end HPA
def isP (o : Nat) : Prop := o ∈ PLs
theorem P_fact : ∀ o ∈ PLs, KL0[o]? = some (0, 3) ∧ KL0[o + 1]? = some (1, 17) ∧ o ≠ 345 ∧ lkR UL0 o 0 = some (o + 1) ∧ lkR (ULm ++ UL0) o 0 = some (o + 1) := by decide +kernel
theorem kP {o : Nat} (h : isP o) : KL0[o]? = some (0, 3) := (P_fact o h).1
theorem kPa {o : Nat} (h : isP o) : KL0[o + 1]? = some (1, 17) := (P_fact o h).2.1
theorem rP {ω : jw} {D : jD} {o : Nat} (h : isP o) : gR (hp ω D) o 0 = some (o + 1) := hR ⟨Or.inl (P_fact o h).2.2.1, (P_fact o h).2.2.2⟩
def isF (b : Nat) : Prop := b ∈ [76, 174]
theorem kF {b : Nat} (h : isF b) : KL0[b]? = some (0, 0) := (show ∀ b ∈ [76, 174], KL0[b]? = some (0, 0) by decide +kernel) b h
theorem rF_6 {ω : jw} {D : jD} {b : Nat} (h : isF b) : gR (hp ω D) b 6 = some (b + 1) := hR ((show ∀ b ∈ [76, 174], (b ≠ 345 ∨ 16 ≤ 6) ∧ lkR UL0 b 6 = some (b + 1) ∧ lkR (ULm ++ UL0) b 6 = some (b + 1) by decide +kernel) b h)
theorem rF_7 {ω : jw} {D : jD} {b : Nat} (h : isF b) : gR (hp ω D) b 7 = some (b + 2) := hR ((show ∀ b ∈ [76, 174], (b ≠ 345 ∨ 16 ≤ 7) ∧ lkR UL0 b 7 = some (b + 2) ∧ lkR (ULm ++ UL0) b 7 = some (b + 2) by decide +kernel) b h)
theorem rF_8 {ω : jw} {D : jD} {b : Nat} (h : isF b) : gR (hp ω D) b 8 = some (b + 3) := hR ((show ∀ b ∈ [76, 174], (b ≠ 345 ∨ 16 ≤ 8) ∧ lkR UL0 b 8 = some (b + 3) ∧ lkR (ULm ++ UL0) b 8 = some (b + 3) by decide +kernel) b h)
theorem rF_9 {ω : jw} {D : jD} {b : Nat} (h : isF b) : gR (hp ω D) b 9 = some (b + 4) := hR ((show ∀ b ∈ [76, 174], (b ≠ 345 ∨ 16 ≤ 9) ∧ lkR UL0 b 9 = some (b + 4) ∧ lkR (ULm ++ UL0) b 9 = some (b + 4) by decide +kernel) b h)
theorem kF_1 {b : Nat} (h : isF b) : KL0[b + 1]? = some (1, 512) := (show ∀ b ∈ [76, 174], KL0[b + 1]? = some (1, 512) by decide +kernel) b h
theorem kF_2 {b : Nat} (h : isF b) : KL0[b + 2]? = some (1, 256) := (show ∀ b ∈ [76, 174], KL0[b + 2]? = some (1, 256) by decide +kernel) b h
theorem kF_3 {b : Nat} (h : isF b) : KL0[b + 3]? = some (1, 256) := (show ∀ b ∈ [76, 174], KL0[b + 3]? = some (1, 256) by decide +kernel) b h
theorem kF_4 {b : Nat} (h : isF b) : KL0[b + 4]? = some (1, 256) := (show ∀ b ∈ [76, 174], KL0[b + 4]? = some (1, 256) by decide +kernel) b h
def isK (b : Nat) : Prop := b ∈ [75, 173]
theorem kK {b : Nat} (h : isK b) : KL0[b]? = some (0, 6) := (show ∀ b ∈ [75, 173], KL0[b]? = some (0, 6) by decide +kernel) b h
theorem rK_0 {ω : jw} {D : jD} {b : Nat} (h : isK b) : gR (hp ω D) b 0 = some (b + 1) := hR ((show ∀ b ∈ [75, 173], (b ≠ 345 ∨ 16 ≤ 0) ∧ lkR UL0 b 0 = some (b + 1) ∧ lkR (ULm ++ UL0) b 0 = some (b + 1) by decide +kernel) b h)
theorem rK_1 {ω : jw} {D : jD} {b : Nat} (h : isK b) : gR (hp ω D) b 1 = some (b + 6) := hR ((show ∀ b ∈ [75, 173], (b ≠ 345 ∨ 16 ≤ 1) ∧ lkR UL0 b 1 = some (b + 6) ∧ lkR (ULm ++ UL0) b 1 = some (b + 6) by decide +kernel) b h)
theorem rK_2 {ω : jw} {D : jD} {b : Nat} (h : isK b) : gR (hp ω D) b 2 = some (b + 8) := hR ((show ∀ b ∈ [75, 173], (b ≠ 345 ∨ 16 ≤ 2) ∧ lkR UL0 b 2 = some (b + 8) ∧ lkR (ULm ++ UL0) b 2 = some (b + 8) by decide +kernel) b h)
theorem rK_3 {ω : jw} {D : jD} {b : Nat} (h : isK b) : gR (hp ω D) b 3 = some (b + 10) := hR ((show ∀ b ∈ [75, 173], (b ≠ 345 ∨ 16 ≤ 3) ∧ lkR UL0 b 3 = some (b + 10) ∧ lkR (ULm ++ UL0) b 3 = some (b + 10) by decide +kernel) b h)
theorem rK_4 {ω : jw} {D : jD} {b : Nat} (h : isK b) : gR (hp ω D) b 4 = some (b + 12) := hR ((show ∀ b ∈ [75, 173], (b ≠ 345 ∨ 16 ≤ 4) ∧ lkR UL0 b 4 = some (b + 12) ∧ lkR (ULm ++ UL0) b 4 = some (b + 12) by decide +kernel) b h)
theorem rK_6 {ω : jw} {D : jD} {b : Nat} (h : isK b) : gR (hp ω D) b 6 = some (b + 14) := hR ((show ∀ b ∈ [75, 173], (b ≠ 345 ∨ 16 ≤ 6) ∧ lkR UL0 b 6 = some (b + 14) ∧ lkR (ULm ++ UL0) b 6 = some (b + 14) by decide +kernel) b h)
theorem rK_7 {ω : jw} {D : jD} {b : Nat} (h : isK b) : gR (hp ω D) b 7 = some (b + 16) := hR ((show ∀ b ∈ [75, 173], (b ≠ 345 ∨ 16 ≤ 7) ∧ lkR UL0 b 7 = some (b + 16) ∧ lkR (ULm ++ UL0) b 7 = some (b + 16) by decide +kernel) b h)
theorem rK_8 {ω : jw} {D : jD} {b : Nat} (h : isK b) : gR (hp ω D) b 8 = some (b + 18) := hR ((show ∀ b ∈ [75, 173], (b ≠ 345 ∨ 16 ≤ 8) ∧ lkR UL0 b 8 = some (b + 18) ∧ lkR (ULm ++ UL0) b 8 = some (b + 18) by decide +kernel) b h)
theorem rK_9 {ω : jw} {D : jD} {b : Nat} (h : isK b) : gR (hp ω D) b 9 = some (b + 20) := hR ((show ∀ b ∈ [75, 173], (b ≠ 345 ∨ 16 ≤ 9) ∧ lkR UL0 b 9 = some (b + 20) ∧ lkR (ULm ++ UL0) b 9 = some (b + 20) by decide +kernel) b h)
theorem rK_10 {ω : jw} {D : jD} {b : Nat} (h : isK b) : gR (hp ω D) b 10 = some (b + 22) := hR ((show ∀ b ∈ [75, 173], (b ≠ 345 ∨ 16 ≤ 10) ∧ lkR UL0 b 10 = some (b + 22) ∧ lkR (ULm ++ UL0) b 10 = some (b + 22) by decide +kernel) b h)
theorem rK_11 {ω : jw} {D : jD} {b : Nat} (h : isK b) : gR (hp ω D) b 11 = some (b + 24) := hR ((show ∀ b ∈ [75, 173], (b ≠ 345 ∨ 16 ≤ 11) ∧ lkR UL0 b 11 = some (b + 24) ∧ lkR (ULm ++ UL0) b 11 = some (b + 24) by decide +kernel) b h)
theorem rK_12 {ω : jw} {D : jD} {b : Nat} (h : isK b) : gR (hp ω D) b 12 = some (b + 26) := hR ((show ∀ b ∈ [75, 173], (b ≠ 345 ∨ 16 ≤ 12) ∧ lkR UL0 b 12 = some (b + 26) ∧ lkR (ULm ++ UL0) b 12 = some (b + 26) by decide +kernel) b h)
theorem rK_13 {ω : jw} {D : jD} {b : Nat} (h : isK b) : gR (hp ω D) b 13 = some (b + 28) := hR ((show ∀ b ∈ [75, 173], (b ≠ 345 ∨ 16 ≤ 13) ∧ lkR UL0 b 13 = some (b + 28) ∧ lkR (ULm ++ UL0) b 13 = some (b + 28) by decide +kernel) b h)
theorem rK_14 {ω : jw} {D : jD} {b : Nat} (h : isK b) : gR (hp ω D) b 14 = some (b + 30) := hR ((show ∀ b ∈ [75, 173], (b ≠ 345 ∨ 16 ≤ 14) ∧ lkR UL0 b 14 = some (b + 30) ∧ lkR (ULm ++ UL0) b 14 = some (b + 30) by decide +kernel) b h)
theorem rK_15 {ω : jw} {D : jD} {b : Nat} (h : isK b) : gR (hp ω D) b 15 = some (b + 32) := hR ((show ∀ b ∈ [75, 173], (b ≠ 345 ∨ 16 ≤ 15) ∧ lkR UL0 b 15 = some (b + 32) ∧ lkR (ULm ++ UL0) b 15 = some (b + 32) by decide +kernel) b h)
theorem rK_16 {ω : jw} {D : jD} {b : Nat} (h : isK b) : gR (hp ω D) b 16 = some (b + 34) := hR ((show ∀ b ∈ [75, 173], (b ≠ 345 ∨ 16 ≤ 16) ∧ lkR UL0 b 16 = some (b + 34) ∧ lkR (ULm ++ UL0) b 16 = some (b + 34) by decide +kernel) b h)
theorem pK_6 {b : Nat} (h : isK b) : isP (b + 6) := (show ∀ b ∈ [75, 173], b + 6 ∈ PLs by decide +kernel) b h
theorem pK_8 {b : Nat} (h : isK b) : isP (b + 8) := (show ∀ b ∈ [75, 173], b + 8 ∈ PLs by decide +kernel) b h
theorem pK_10 {b : Nat} (h : isK b) : isP (b + 10) := (show ∀ b ∈ [75, 173], b + 10 ∈ PLs by decide +kernel) b h
theorem pK_12 {b : Nat} (h : isK b) : isP (b + 12) := (show ∀ b ∈ [75, 173], b + 12 ∈ PLs by decide +kernel) b h
theorem pK_14 {b : Nat} (h : isK b) : isP (b + 14) := (show ∀ b ∈ [75, 173], b + 14 ∈ PLs by decide +kernel) b h
theorem pK_16 {b : Nat} (h : isK b) : isP (b + 16) := (show ∀ b ∈ [75, 173], b + 16 ∈ PLs by decide +kernel) b h
theorem pK_18 {b : Nat} (h : isK b) : isP (b + 18) := (show ∀ b ∈ [75, 173], b + 18 ∈ PLs by decide +kernel) b h
theorem pK_20 {b : Nat} (h : isK b) : isP (b + 20) := (show ∀ b ∈ [75, 173], b + 20 ∈ PLs by decide +kernel) b h
theorem pK_22 {b : Nat} (h : isK b) : isP (b + 22) := (show ∀ b ∈ [75, 173], b + 22 ∈ PLs by decide +kernel) b h
theorem pK_24 {b : Nat} (h : isK b) : isP (b + 24) := (show ∀ b ∈ [75, 173], b + 24 ∈ PLs by decide +kernel) b h
theorem pK_26 {b : Nat} (h : isK b) : isP (b + 26) := (show ∀ b ∈ [75, 173], b + 26 ∈ PLs by decide +kernel) b h
theorem pK_28 {b : Nat} (h : isK b) : isP (b + 28) := (show ∀ b ∈ [75, 173], b + 28 ∈ PLs by decide +kernel) b h
theorem pK_30 {b : Nat} (h : isK b) : isP (b + 30) := (show ∀ b ∈ [75, 173], b + 30 ∈ PLs by decide +kernel) b h
theorem pK_32 {b : Nat} (h : isK b) : isP (b + 32) := (show ∀ b ∈ [75, 173], b + 32 ∈ PLs by decide +kernel) b h
theorem pK_34 {b : Nat} (h : isK b) : isP (b + 34) := (show ∀ b ∈ [75, 173], b + 34 ∈ PLs by decide +kernel) b h
theorem fK {b : Nat} (h : isK b) : isF (b + 1) := (show ∀ b ∈ [75, 173], b + 1 ∈ [76, 174] by decide) b h
def isT (b : Nat) : Prop := b ∈ [3, 112, 366, 427]
theorem kT {b : Nat} (h : isT b) : KL0[b]? = some (0, 9) := (show ∀ b ∈ [3, 112, 366, 427], KL0[b]? = some (0, 9) by decide +kernel) b h
theorem rT_7 {ω : jw} {D : jD} {b : Nat} (h : isT b) : gR (hp ω D) b 7 = some (b + 1) := hR ((show ∀ b ∈ [3, 112, 366, 427], (b ≠ 345 ∨ 16 ≤ 7) ∧ lkR UL0 b 7 = some (b + 1) ∧ lkR (ULm ++ UL0) b 7 = some (b + 1) by decide +kernel) b h)
theorem rT_8 {ω : jw} {D : jD} {b : Nat} (h : isT b) : gR (hp ω D) b 8 = some (b + 26) := hR ((show ∀ b ∈ [3, 112, 366, 427], (b ≠ 345 ∨ 16 ≤ 8) ∧ lkR UL0 b 8 = some (b + 26) ∧ lkR (ULm ++ UL0) b 8 = some (b + 26) by decide +kernel) b h)
theorem rT_9 {ω : jw} {D : jD} {b : Nat} (h : isT b) : gR (hp ω D) b 9 = some (b + 27) := hR ((show ∀ b ∈ [3, 112, 366, 427], (b ≠ 345 ∨ 16 ≤ 9) ∧ lkR UL0 b 9 = some (b + 27) ∧ lkR (ULm ++ UL0) b 9 = some (b + 27) by decide +kernel) b h)
theorem rT_10 {ω : jw} {D : jD} {b : Nat} (h : isT b) : gR (hp ω D) b 10 = some (b + 60) := hR ((show ∀ b ∈ [3, 112, 366, 427], (b ≠ 345 ∨ 16 ≤ 10) ∧ lkR UL0 b 10 = some (b + 60) ∧ lkR (ULm ++ UL0) b 10 = some (b + 60) by decide +kernel) b h)
theorem kT_1 {b : Nat} (h : isT b) : KL0[b + 1]? = some (7, 12) := (show ∀ b ∈ [3, 112, 366, 427], KL0[b + 1]? = some (7, 12) by decide +kernel) b h
theorem kT_26 {b : Nat} (h : isT b) : KL0[b + 26]? = some (1, 8) := (show ∀ b ∈ [3, 112, 366, 427], KL0[b + 26]? = some (1, 8) by decide +kernel) b h
theorem kT_27 {b : Nat} (h : isT b) : KL0[b + 27]? = some (7, 16) := (show ∀ b ∈ [3, 112, 366, 427], KL0[b + 27]? = some (7, 16) by decide +kernel) b h
theorem kT_60 {b : Nat} (h : isT b) : KL0[b + 60]? = some (1, 16) := (show ∀ b ∈ [3, 112, 366, 427], KL0[b + 60]? = some (1, 16) by decide +kernel) b h
theorem rT_1001 {ω : jw} {D : jD} {b i : Nat} (h : isT b) (hi : i < 12) : gR (hp ω D) (b + 1) i = some (b + 2 + 2 * i) := hR ((show ∀ b ∈ [3, 112, 366, 427], ∀ i, i < 12 → (b + 1 ≠ 345 ∨ 16 ≤ i) ∧ lkR UL0 (b + 1) i = some (b + 2 + 2 * i) ∧ lkR (ULm ++ UL0) (b + 1) i = some (b + 2 + 2 * i) by decide +kernel) b h i hi)
theorem pT_1 {b i : Nat} (h : isT b) (hi : i < 12) : isP (b + 2 + 2 * i) := (show ∀ b ∈ [3, 112, 366, 427], ∀ i, i < 12 → b + 2 + 2 * i ∈ PLs by decide +kernel) b h i hi
theorem rT_1027 {ω : jw} {D : jD} {b i : Nat} (h : isT b) (hi : i < 16) : gR (hp ω D) (b + 27) i = some (b + 28 + 2 * i) := hR ((show ∀ b ∈ [3, 112, 366, 427], ∀ i, i < 16 → (b + 27 ≠ 345 ∨ 16 ≤ i) ∧ lkR UL0 (b + 27) i = some (b + 28 + 2 * i) ∧ lkR (ULm ++ UL0) (b + 27) i = some (b + 28 + 2 * i) by decide +kernel) b h i hi)
theorem pT_27 {b i : Nat} (h : isT b) (hi : i < 16) : isP (b + 28 + 2 * i) := (show ∀ b ∈ [3, 112, 366, 427], ∀ i, i < 16 → b + 28 + 2 * i ∈ PLs by decide +kernel) b h i hi
def isV (b : Nat) : Prop := b ∈ [216, 225, 234, 243, 252, 261, 270]
theorem kV {b : Nat} (h : isV b) : KL0[b]? = some (0, 1) := (show ∀ b ∈ [216, 225, 234, 243, 252, 261, 270], KL0[b]? = some (0, 1) by decide +kernel) b h
theorem rV_0 {ω : jw} {D : jD} {b : Nat} (h : isV b) : gR (hp ω D) b 0 = some (b + 1) := hR ((show ∀ b ∈ [216, 225, 234, 243, 252, 261, 270], (b ≠ 345 ∨ 16 ≤ 0) ∧ lkR UL0 b 0 = some (b + 1) ∧ lkR (ULm ++ UL0) b 0 = some (b + 1) by decide +kernel) b h)
theorem rV_1 {ω : jw} {D : jD} {b : Nat} (h : isV b) : gR (hp ω D) b 1 = some (b + 3) := hR ((show ∀ b ∈ [216, 225, 234, 243, 252, 261, 270], (b ≠ 345 ∨ 16 ≤ 1) ∧ lkR UL0 b 1 = some (b + 3) ∧ lkR (ULm ++ UL0) b 1 = some (b + 3) by decide +kernel) b h)
theorem rV_2 {ω : jw} {D : jD} {b : Nat} (h : isV b) : gR (hp ω D) b 2 = some (b + 5) := hR ((show ∀ b ∈ [216, 225, 234, 243, 252, 261, 270], (b ≠ 345 ∨ 16 ≤ 2) ∧ lkR UL0 b 2 = some (b + 5) ∧ lkR (ULm ++ UL0) b 2 = some (b + 5) by decide +kernel) b h)
theorem rV_3 {ω : jw} {D : jD} {b : Nat} (h : isV b) : gR (hp ω D) b 3 = some (b + 7) := hR ((show ∀ b ∈ [216, 225, 234, 243, 252, 261, 270], (b ≠ 345 ∨ 16 ≤ 3) ∧ lkR UL0 b 3 = some (b + 7) ∧ lkR (ULm ++ UL0) b 3 = some (b + 7) by decide +kernel) b h)
theorem pV_1 {b : Nat} (h : isV b) : isP (b + 1) := (show ∀ b ∈ [216, 225, 234, 243, 252, 261, 270], b + 1 ∈ PLs by decide +kernel) b h
theorem pV_3 {b : Nat} (h : isV b) : isP (b + 3) := (show ∀ b ∈ [216, 225, 234, 243, 252, 261, 270], b + 3 ∈ PLs by decide +kernel) b h
theorem pV_5 {b : Nat} (h : isV b) : isP (b + 5) := (show ∀ b ∈ [216, 225, 234, 243, 252, 261, 270], b + 5 ∈ PLs by decide +kernel) b h
theorem pV_7 {b : Nat} (h : isV b) : isP (b + 7) := (show ∀ b ∈ [216, 225, 234, 243, 252, 261, 270], b + 7 ∈ PLs by decide +kernel) b h
theorem rV_arr {ω : jw} {D : jD} {i : Nat} (hi : i < 7) : gR (hp ω D) 210 i = some (216 + 9 * i) := hR ((show ∀ i, i < 7 → (210 ≠ 345 ∨ 16 ≤ i) ∧ lkR UL0 210 i = some (216 + 9 * i) ∧ lkR (ULm ++ UL0) 210 i = some (216 + 9 * i) by decide +kernel) i hi)
theorem vV_i {i : Nat} (hi : i < 7) : isV (216 + 9 * i) := (show ∀ i, i < 7 → 216 + 9 * i ∈ [216, 225, 234, 243, 252, 261, 270] by decide) i hi
theorem kC : KL0[0]? = some (0, 11) := by decide +kernel
theorem rC_0 {ω : jw} {D : jD} : gR (hp ω D) 0 0 = some 1 := hR (show RF 0 0 1 by unfold RF; decide +kernel)
theorem kC_0 : KL0[1]? = some (0, 10) := by decide +kernel
theorem rC_1 {ω : jw} {D : jD} : gR (hp ω D) 0 1 = some 3 := hR (show RF 0 1 3 by unfold RF; decide +kernel)
theorem kC_1 : KL0[3]? = some (0, 9) := by decide +kernel
theorem rC_2 {ω : jw} {D : jD} : gR (hp ω D) 0 2 = some 64 := hR (show RF 0 2 64 by unfold RF; decide +kernel)
theorem kC_2 : KL0[64]? = some (13, 2) := by decide +kernel
theorem rC_3 {ω : jw} {D : jD} : gR (hp ω D) 0 3 = some 65 := hR (show RF 0 3 65 by unfold RF; decide +kernel)
theorem kC_3 : KL0[65]? = some (2, 2) := by decide +kernel
theorem rC_4 {ω : jw} {D : jD} : gR (hp ω D) 0 4 = some 66 := hR (show RF 0 4 66 by unfold RF; decide +kernel)
theorem kC_4 : KL0[66]? = some (7, 4) := by decide +kernel
theorem rC_5 {ω : jw} {D : jD} : gR (hp ω D) 0 5 = some 75 := hR (show RF 0 5 75 by unfold RF; decide +kernel)
theorem kC_5 : KL0[75]? = some (0, 6) := by decide +kernel
theorem rC_6 {ω : jw} {D : jD} : gR (hp ω D) 0 6 = some 111 := hR (show RF 0 6 111 by unfold RF; decide +kernel)
theorem kC_6 : KL0[111]? = some (0, 4) := by decide +kernel
theorem rC_7 {ω : jw} {D : jD} : gR (hp ω D) 0 7 = some 279 := hR (show RF 0 7 279 by unfold RF; decide +kernel)
theorem kC_7 : KL0[279]? = some (0, 8) := by decide +kernel
theorem rC_8 {ω : jw} {D : jD} : gR (hp ω D) 0 8 = some 302 := hR (show RF 0 8 302 by unfold RF; decide +kernel)
theorem kC_8 : KL0[302]? = some (0, 7) := by decide +kernel
theorem rC_9 {ω : jw} {D : jD} : gR (hp ω D) 0 9 = some 306 := hR (show RF 0 9 306 by unfold RF; decide +kernel)
theorem kC_9 : KL0[306]? = some (0, 2) := by decide +kernel
theorem rC_10 {ω : jw} {D : jD} : gR (hp ω D) 0 10 = some 343 := hR (show RF 0 10 343 by unfold RF; decide +kernel)
theorem kC_10 : KL0[343]? = some (0, 5) := by decide +kernel
theorem rC_11 {ω : jw} {D : jD} : gR (hp ω D) 0 11 = some 363 := hR (show RF 0 11 363 by unfold RF; decide +kernel)
theorem kC_11 : KL0[363]? = some (0, 3) := by decide +kernel
theorem pC_11 : isP 363 := by unfold isP; decide +kernel
theorem rC_12 {ω : jw} {D : jD} : gR (hp ω D) 0 12 = some 365 := hR (show RF 0 12 365 by unfold RF; decide +kernel)
theorem kC_12 : KL0[365]? = some (2, 256) := by decide +kernel
theorem kA : KL0[1]? = some (0, 10) := by decide +kernel
theorem rA_0 {ω : jw} {D : jD} : gR (hp ω D) 1 0 = some 2 := hR (show RF 1 0 2 by unfold RF; decide +kernel)
theorem kA_0 : KL0[2]? = some (1, 540) := by decide +kernel
theorem kR : KL0[111]? = some (0, 4) := by decide +kernel
theorem rR_0 {ω : jw} {D : jD} : gR (hp ω D) 111 0 = some 112 := hR (show RF 111 0 112 by unfold RF; decide +kernel)
theorem kR_0 : KL0[112]? = some (0, 9) := by decide +kernel
theorem rR_4 {ω : jw} {D : jD} : gR (hp ω D) 111 4 = some 173 := hR (show RF 111 4 173 by unfold RF; decide +kernel)
theorem kR_4 : KL0[173]? = some (0, 6) := by decide +kernel
theorem rR_5 {ω : jw} {D : jD} : gR (hp ω D) 111 5 = some 209 := hR (show RF 111 5 209 by unfold RF; decide +kernel)
theorem kR_5 : KL0[209]? = some (1, 12) := by decide +kernel
theorem rR_6 {ω : jw} {D : jD} : gR (hp ω D) 111 6 = some 210 := hR (show RF 111 6 210 by unfold RF; decide +kernel)
theorem kR_6 : KL0[210]? = some (5, 7) := by decide +kernel
theorem rR_7 {ω : jw} {D : jD} : gR (hp ω D) 111 7 = some 211 := hR (show RF 111 7 211 by unfold RF; decide +kernel)
theorem kR_7 : KL0[211]? = some (0, 3) := by decide +kernel
theorem pR_7 : isP 211 := by unfold isP; decide +kernel
theorem rR_8 {ω : jw} {D : jD} : gR (hp ω D) 111 8 = some 213 := hR (show RF 111 8 213 by unfold RF; decide +kernel)
theorem kR_8 : KL0[213]? = some (0, 3) := by decide +kernel
theorem pR_8 : isP 213 := by unfold isP; decide +kernel
theorem rR_9 {ω : jw} {D : jD} : gR (hp ω D) 111 9 = some 215 := hR (show RF 111 9 215 by unfold RF; decide +kernel)
theorem kR_9 : KL0[215]? = some (1, 540) := by decide +kernel
theorem kX : KL0[279]? = some (0, 8) := by decide +kernel
theorem rX_0 {ω : jw} {D : jD} : gR (hp ω D) 279 0 = some 280 := hR (show RF 279 0 280 by unfold RF; decide +kernel)
theorem kX_0 : KL0[280]? = some (0, 3) := by decide +kernel
theorem pX_0 : isP 280 := by unfold isP; decide +kernel
theorem rX_1 {ω : jw} {D : jD} : gR (hp ω D) 279 1 = some 282 := hR (show RF 279 1 282 by unfold RF; decide +kernel)
theorem kX_1 : KL0[282]? = some (0, 3) := by decide +kernel
theorem pX_1 : isP 282 := by unfold isP; decide +kernel
theorem rX_2 {ω : jw} {D : jD} : gR (hp ω D) 279 2 = some 284 := hR (show RF 279 2 284 by unfold RF; decide +kernel)
theorem kX_2 : KL0[284]? = some (0, 3) := by decide +kernel
theorem pX_2 : isP 284 := by unfold isP; decide +kernel
theorem rX_3 {ω : jw} {D : jD} : gR (hp ω D) 279 3 = some 286 := hR (show RF 279 3 286 by unfold RF; decide +kernel)
theorem kX_3 : KL0[286]? = some (7, 7) := by decide +kernel
theorem rX_4 {ω : jw} {D : jD} : gR (hp ω D) 279 4 = some 301 := hR (show RF 279 4 301 by unfold RF; decide +kernel)
theorem kX_4 : KL0[301]? = some (1, 7) := by decide +kernel
theorem kS : KL0[302]? = some (0, 7) := by decide +kernel
theorem rS_0 {ω : jw} {D : jD} : gR (hp ω D) 302 0 = some 303 := hR (show RF 302 0 303 by unfold RF; decide +kernel)
theorem kS_0 : KL0[303]? = some (3, 12) := by decide +kernel
theorem rS_1 {ω : jw} {D : jD} : gR (hp ω D) 302 1 = some 304 := hR (show RF 302 1 304 by unfold RF; decide +kernel)
theorem kS_1 : KL0[304]? = some (1, 8) := by decide +kernel
theorem rS_2 {ω : jw} {D : jD} : gR (hp ω D) 302 2 = some 305 := hR (show RF 302 2 305 by unfold RF; decide +kernel)
theorem kS_2 : KL0[305]? = some (1, 17) := by decide +kernel
theorem kN : KL0[306]? = some (0, 2) := by decide +kernel
theorem rN_0 {ω : jw} {D : jD} : gR (hp ω D) 306 0 = some 307 := hR (show RF 306 0 307 by unfold RF; decide +kernel)
theorem kN_0 : KL0[307]? = some (7, 16) := by decide +kernel
theorem rN_1 {ω : jw} {D : jD} : gR (hp ω D) 306 1 = some 340 := hR (show RF 306 1 340 by unfold RF; decide +kernel)
theorem kN_1 : KL0[340]? = some (0, 3) := by decide +kernel
theorem pN_1 : isP 340 := by unfold isP; decide +kernel
theorem rN_2 {ω : jw} {D : jD} : gR (hp ω D) 306 2 = some 342 := hR (show RF 306 2 342 by unfold RF; decide +kernel)
theorem kN_2 : KL0[342]? = some (1, 17) := by decide +kernel
theorem kG : KL0[343]? = some (0, 5) := by decide +kernel
theorem rG_0 {ω : jw} {D : jD} : gR (hp ω D) 343 0 = some 344 := hR (show RF 343 0 344 by unfold RF; decide +kernel)
theorem kG_0 : KL0[344]? = some (1, 17) := by decide +kernel
theorem rG_2 {ω : jw} {D : jD} : gR (hp ω D) 343 2 = some 345 := hR (show RF 343 2 345 by unfold RF; decide +kernel)
theorem kG_2 : KL0[345]? = some (104, 16) := by decide +kernel
theorem rG_3 {ω : jw} {D : jD} : gR (hp ω D) 343 3 = some 362 := hR (show RF 343 3 362 by unfold RF; decide +kernel)
theorem kG_3 : KL0[362]? = some (1, 17) := by decide +kernel
theorem tT_3 : isT 3 := by unfold isT; decide
theorem tT_112 : isT 112 := by unfold isT; decide
theorem tT_366 {k : Nat} (h : k < 2) : isT (366 + 61 * k) := (show ∀ k, k < 2 → 366 + 61 * k ∈ [3, 112, 366, 427] by decide) k h
theorem tK_75 : isK 75 := by unfold isK; decide
theorem tK_173 : isK 173 := by unfold isK; decide
theorem tF_76 : isF 76 := fK tK_75
theorem tF_174 : isF 174 := fK tK_173
theorem rRes {ω : jw} {D : jD} {i : Nat} (hi : i < 4) : gR (hp ω D) 66 i = some (67 + 2 * i) := hR ((show ∀ i, i < 4 → (66 ≠ 345 ∨ 16 ≤ i) ∧ lkR UL0 66 i = some (67 + 2 * i) ∧ lkR (ULm ++ UL0) 66 i = some (67 + 2 * i) by decide +kernel) i hi)
theorem prRes {i : Nat} (hi : i < 4) : isP (67 + 2 * i) := (show ∀ i, i < 4 → 67 + 2 * i ∈ PLs by decide +kernel) i hi
theorem rPar {ω : jw} {D : jD} {i : Nat} (hi : i < 7) : gR (hp ω D) 286 i = some (287 + 2 * i) := hR ((show ∀ i, i < 7 → (286 ≠ 345 ∨ 16 ≤ i) ∧ lkR UL0 286 i = some (287 + 2 * i) ∧ lkR (ULm ++ UL0) 286 i = some (287 + 2 * i) by decide +kernel) i hi)
theorem prPar {i : Nat} (hi : i < 7) : isP (287 + 2 * i) := (show ∀ i, i < 7 → 287 + 2 * i ∈ PLs by decide +kernel) i hi
theorem rMin {ω : jw} {D : jD} {i : Nat} (hi : i < 16) : gR (hp ω D) 307 i = some (308 + 2 * i) := hR ((show ∀ i, i < 16 → (307 ≠ 345 ∨ 16 ≤ i) ∧ lkR UL0 307 i = some (308 + 2 * i) ∧ lkR (ULm ++ UL0) 307 i = some (308 + 2 * i) by decide +kernel) i hi)
theorem prMin {i : Nat} (hi : i < 16) : isP (308 + 2 * i) := (show ∀ i, i < 16 → 308 + 2 * i ∈ PLs by decide +kernel) i hi
theorem rImg {ω : jw} {D : jD} {i : Nat} (hi : i < 2) : gR (hp ω D) 64 i = some (366 + 61 * i) := hR ((show ∀ i, i < 2 → (64 ≠ 345 ∨ 16 ≤ i) ∧ lkR UL0 64 i = some (366 + 61 * i) ∧ lkR (ULm ++ UL0) 64 i = some (366 + 61 * i) by decide +kernel) i hi)
theorem kReg {i : Nat} (hi : i < 16) : KL0[346 + i]? = some (1, 17) := (show ∀ i, i < 16 → KL0[346 + i]? = some (1, 17) by decide +kernel) i hi
