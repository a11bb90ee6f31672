/-! THE MODEL: its table (made by wip/whole/gen/mktab.py) -/
def jRUL : List Int := [1, 1, 0, 0, 2, -1, 3, 18, 18, 0, 2, 1, 1, 1, 2, -1, 2, 2, 2, -1, 3, 14, 14, 0, 3, 1, 10, 10, 2, -1, 21, 21, 2, -1, 22, 22, 2, -1, 2, 1, 20, 0, 6, 1, 11, 11, 2, -1, 12, 12, 2, -1, 13, 13, 2, -1, 15, 15, 2, -1, 16, 16, 2, -1, 17, 17, 2, -1, 4, 6, 6, 0, 1, 1, 20, 20, 2, -1, 1, 2, 2, 0, 2, 1, 30, 30, 2, -1, 37, 37, 2, -1, 1, 1, 8, 0, 1, 1, 90, 90, 2, -1, 2, 1, 30, 0, 1, 1, 91, 99, 2, -1, 2, 1, 90, 0, 1, 1, 235, 235, 3, -1, 2, 1, 28, 0, 4, 1, 240, 240, 3, -1, 241, 241, 3, -1, 250, 250, 3, -1, 251, 251, 3, -1, 2, 1, 30, 0, 1, 1, 242, 242, 3, -1, 1, 1, 6, 0, 2, 1, 243, 243, 3, -1, 254, 254, 3, -1, 2, 1, 20, 0, 1, 2, 253, 253, 3, -1, 3, 13, 13, 0, 2, 1, 17, 1, 1, 2, 255, 255, 3, -1, 3, 13, 13, 0, 1, 1, 12, 1, 3, 1, 400, 400, 3, -1, 401, 401, 3, -1, 403, 403, 3, -1, 2, 1, 30, 0, 1, 1, 402, 402, 3, -1, 3, 17, 17, 0, 1, 1, 410, 417, 3, -1, 3, 13, 13, 0, 1, 1, 420, 420, 3, -1, 2, 1, 20, 0, 1, 2, 421, 421, 3, -1, 1, 3, 3, 0, 2, 1, 9, 0, 3, 1, 422, 422, 3, -1, 424, 424, 3, -1, 426, 426, 3, -1, 1, 3, 3, 0, 1, 1, 427, 427, 3, -1, 2, 1, 3, 0, 5, 1, 310, 316, 3, 5, 320, 337, 3, 5, 340, 357, 3, 5, 360, 369, 3, 5, 395, 395, 3, 5, 1, 6, 6, 0, 2, 1, 390, 390, 3, 9, 392, 392, 3, 9, 1, 1, 15, 0, 2, 2, 391, 391, 3, 9, 393, 393, 3, 9, 1, 3, 3, 0, 1, 1, 15, 0, 1, 1, 394, 394, 3, 3, 1, 4, 4, 0, 1, 1, 7001, 7001, 4, -1, 1, 13, 13, 0, 1, 1, 7002, 7002, 4, -1, 2, 1, 30, 0, 1, 2, 7003, 7003, 4, -1, 4, 6, 6, 0, 5, 4, 4, 0, 1, 1, 7004, 7004, 4, -1, 1, 1, 4, 0, 1, 1, 7005, 7005, 4, -1, 2, 1, 12, 0, 1, 1, 7006, 7006, 4, -1, 4, 6, 6, 0, 1, 2, 7007, 7007, 4, -1, 4, 6, 6, 0, 4, 6, 6, 1, 1, 1, 7008, 7008, 4, -1, 2, 1, 3, 0, 1, 1, 7009, 7009, 4, -1, 2, 1, 10, 0, 1, 1, 7010, 7010, 4, -1, 2, 1, 2, 0, 1, 2, 7030, 7039, 4, -1, 1, 3, 3, 0, 2, 1, 27, 0, 1, 1, 8001, 8001, 4, -1, 1, 14, 14, 0, 2, 1, 8002, 8002, 4, -1, 8012, 8012, 4, -1, 2, 1, 20, 0, 1, 2, 8003, 8003, 4, -1, 3, 14, 14, 0, 2, 1, 16, 1, 1, 1, 8004, 8004, 4, -1, 2, 1, 30, 0, 1, 1, 8005, 8005, 4, -1, 1, 6, 6, 0, 2, 3, 8006, 8006, 4, -1, 8026, 8026, 4, -1, 3, 14, 14, 0, 1, 2, 2, 0, 1, 2, 2, 0, 1, 1, 8007, 8007, 4, -1, 2, 1, 34, 0, 1, 4, 8008, 8008, 4, -1, 4, 6, 6, 0, 1, 2, 2, 0, 1, 2, 2, 1, 1, 2, 2, 1, 1, 1, 8011, 8011, 4, -1, 1, 1, 12, 0, 2, 1, 8013, 8013, 4, -1, 8020, 8020, 4, -1, 2, 1, 25, 0, 2, 1, 8017, 8017, 4, -1, 8018, 8018, 4, -1, 3, 18, 18, 0, 1, 1, 8019, 8019, 4, -1, 1, 1, 10, 0]
def aNl : List Int := [0, 1, 2, 10, 21, 22, 11, 12, 13, 15, 16, 17, 20, 30, 37, 90, 91, 92, 93, 94, 95, 96, 97, 98, 99, 235, 240, 241, 250, 251, 242, 243, 254, 253, 255, 400, 401, 403, 402, 410, 411, 412, 413, 414, 415, 416, 417, 420, 421, 422, 424, 426, 427, 3100, 3101, 3102, 3103, 3104, 3105, 3110, 3111, 3112, 3113, 3114, 3115, 3120, 3121, 3122, 3123, 3124, 3125, 3130, 3131, 3132, 3133, 3134, 3135, 3140, 3141, 3142, 3143, 3144, 3145, 3150, 3151, 3152, 3153, 3154, 3155, 3160, 3161, 3162, 3163, 3164, 3165, 3200, 3201, 3202, 3203, 3204, 3205, 3210, 3211, 3212, 3213, 3214, 3215, 3220, 3221, 3222, 3223, 3224, 3225, 3230, 3231, 3232, 3233, 3234, 3235, 3240, 3241, 3242, 3243, 3244, 3245, 3250, 3251, 3252, 3253, 3254, 3255, 3260, 3261, 3262, 3263, 3264, 3265, 3270, 3271, 3272, 3273, 3274, 3275, 3280, 3281, 3282, 3283, 3284, 3285, 3290, 3291, 3292, 3293, 3294, 3295, 3300, 3301, 3302, 3303, 3304, 3305, 3310, 3311, 3312, 3313, 3314, 3315, 3320, 3321, 3322, 3323, 3324, 3325, 3330, 3331, 3332, 3333, 3334, 3335, 3340, 3341, 3342, 3343, 3344, 3345, 3350, 3351, 3352, 3353, 3354, 3355, 3360, 3361, 3362, 3363, 3364, 3365, 3370, 3371, 3372, 3373, 3374, 3375, 3400, 3401, 3402, 3403, 3404, 3405, 3410, 3411, 3412, 3413, 3414, 3415, 3420, 3421, 3422, 3423, 3424, 3425, 3430, 3431, 3432, 3433, 3434, 3435, 3440, 3441, 3442, 3443, 3444, 3445, 3450, 3451, 3452, 3453, 3454, 3455, 3460, 3461, 3462, 3463, 3464, 3465, 3470, 3471, 3472, 3473, 3474, 3475, 3480, 3481, 3482, 3483, 3484, 3485, 3490, 3491, 3492, 3493, 3494, 3495, 3500, 3501, 3502, 3503, 3504, 3505, 3510, 3511, 3512, 3513, 3514, 3515, 3520, 3521, 3522, 3523, 3524, 3525, 3530, 3531, 3532, 3533, 3534, 3535, 3540, 3541, 3542, 3543, 3544, 3545, 3550, 3551, 3552, 3553, 3554, 3555, 3560, 3561, 3562, 3563, 3564, 3565, 3570, 3571, 3572, 3573, 3574, 3575, 3600, 3601, 3602, 3603, 3604, 3605, 3610, 3611, 3612, 3613, 3614, 3615, 3620, 3621, 3622, 3623, 3624, 3625, 3630, 3631, 3632, 3633, 3634, 3635, 3640, 3641, 3642, 3643, 3644, 3645, 3650, 3651, 3652, 3653, 3654, 3655, 3660, 3661, 3662, 3663, 3664, 3665, 3670, 3671, 3672, 3673, 3674, 3675, 3680, 3681, 3682, 3683, 3684, 3685, 3690, 3691, 3692, 3693, 3694, 3695, 3950, 3951, 3952, 3953, 3954, 3955, 3900, 3901, 3902, 3903, 3904, 3905, 3906, 3907, 3908, 3909, 3920, 3921, 3922, 3923, 3924, 3925, 3926, 3927, 3928, 3929, 3910, 3911, 3912, 3913, 3914, 3915, 3916, 3917, 3918, 3919, 3930, 3931, 3932, 3933, 3934, 3935, 3936, 3937, 3938, 3939, 3940, 3941, 3942, 3943, 7001, 7002, 7003, 7004, 7005, 7006, 7007, 7008, 7009, 7010, 7030, 7031, 7032, 7033, 7034, 7035, 7036, 7037, 7038, 7039, 8001, 8002, 8012, 8003, 8004, 8005, 8006, 8026, 8007, 8008, 8011, 8013, 8020, 8017, 8018, 8019]
def aDl : List Int := [2, 2, 2, 2, 2, 2, 2, 2, 2, 2, 2, 2, 2, 2, 2, 2, 2, 2, 2, 2, 2, 2, 2, 2, 2, 3, 3, 3, 3, 3, 3, 3, 3, 3, 3, 3, 3, 3, 3, 3, 3, 3, 3, 3, 3, 3, 3, 3, 3, 3, 3, 3, 3, 4, 4, 4, 4, 4, 4, 4, 4, 4, 4, 4, 4, 4, 4, 4, 4, 4, 4, 4, 4, 4, 4, 4, 4, 4, 4, 4, 4, 4, 4, 4, 4, 4, 4, 4, 4, 4, 4, 4, 4, 4, 4, 4, 4, 4, 4, 4, 4, 4, 4, 4, 4, 4, 4, 4, 4, 4, 4, 4, 4, 4, 4, 4, 4, 4, 4, 4, 4, 4, 4, 4, 4, 4, 4, 4, 4, 4, 4, 4, 4, 4, 4, 4, 4, 4, 4, 4, 4, 4, 4, 4, 4, 4, 4, 4, 4, 4, 4, 4, 4, 4, 4, 4, 4, 4, 4, 4, 4, 4, 4, 4, 4, 4, 4, 4, 4, 4, 4, 4, 4, 4, 4, 4, 4, 4, 4, 4, 4, 4, 4, 4, 4, 4, 4, 4, 4, 4, 4, 4, 4, 4, 4, 4, 4, 4, 4, 4, 4, 4, 4, 4, 4, 4, 4, 4, 4, 4, 4, 4, 4, 4, 4, 4, 4, 4, 4, 4, 4, 4, 4, 4, 4, 4, 4, 4, 4, 4, 4, 4, 4, 4, 4, 4, 4, 4, 4, 4, 4, 4, 4, 4, 4, 4, 4, 4, 4, 4, 4, 4, 4, 4, 4, 4, 4, 4, 4, 4, 4, 4, 4, 4, 4, 4, 4, 4, 4, 4, 4, 4, 4, 4, 4, 4, 4, 4, 4, 4, 4, 4, 4, 4, 4, 4, 4, 4, 4, 4, 4, 4, 4, 4, 4, 4, 4, 4, 4, 4, 4, 4, 4, 4, 4, 4, 4, 4, 4, 4, 4, 4, 4, 4, 4, 4, 4, 4, 4, 4, 4, 4, 4, 4, 4, 4, 4, 4, 4, 4, 4, 4, 4, 4, 4, 4, 4, 4, 4, 4, 4, 4, 4, 4, 4, 4, 4, 4, 4, 4, 4, 4, 4, 4, 4, 4, 4, 4, 4, 4, 4, 4, 4, 4, 4, 4, 4, 4, 4, 4, 4, 4, 4, 4, 4, 4, 4, 4, 4, 4, 4, 4, 4, 4, 4, 4, 4, 4, 4, 4, 4, 4, 4, 4, 4, 4, 4, 4, 4, 4, 4, 4, 4, 4, 4, 4, 4, 4, 4, 4, 4, 4, 4, 4, 4, 4, 4, 4, 4, 4, 4, 4, 4, 4, 4, 4, 4, 4, 4, 4, 4, 4, 4, 4, 4, 4, 4, 4, 4, 4, 4, 4, 4, 4, 4, 4, 4, 4, 4, 4, 4, 4, 4, 4, 4, 4, 4]
def aPl : List Int := [-1, -1, -1, -1, -1, -1, -1, -1, -1, -1, -1, -1, -1, -1, -1, -1, -1, -1, -1, -1, -1, -1, -1, -1, -1, -1, -1, -1, -1, -1, -1, -1, -1, -1, -1, -1, -1, -1, -1, -1, -1, -1, -1, -1, -1, -1, -1, -1, -1, -1, -1, -1, -1, 0, 1, 2, 3, 4, 5, 0, 1, 2, 3, 4, 5, 0, 1, 2, 3, 4, 5, 0, 1, 2, 3, 4, 5, 0, 1, 2, 3, 4, 5, 0, 1, 2, 3, 4, 5, 0, 1, 2, 3, 4, 5, 0, 1, 2, 3, 4, 5, 0, 1, 2, 3, 4, 5, 0, 1, 2, 3, 4, 5, 0, 1, 2, 3, 4, 5, 0, 1, 2, 3, 4, 5, 0, 1, 2, 3, 4, 5, 0, 1, 2, 3, 4, 5, 0, 1, 2, 3, 4, 5, 0, 1, 2, 3, 4, 5, 0, 1, 2, 3, 4, 5, 0, 1, 2, 3, 4, 5, 0, 1, 2, 3, 4, 5, 0, 1, 2, 3, 4, 5, 0, 1, 2, 3, 4, 5, 0, 1, 2, 3, 4, 5, 0, 1, 2, 3, 4, 5, 0, 1, 2, 3, 4, 5, 0, 1, 2, 3, 4, 5, 0, 1, 2, 3, 4, 5, 0, 1, 2, 3, 4, 5, 0, 1, 2, 3, 4, 5, 0, 1, 2, 3, 4, 5, 0, 1, 2, 3, 4, 5, 0, 1, 2, 3, 4, 5, 0, 1, 2, 3, 4, 5, 0, 1, 2, 3, 4, 5, 0, 1, 2, 3, 4, 5, 0, 1, 2, 3, 4, 5, 0, 1, 2, 3, 4, 5, 0, 1, 2, 3, 4, 5, 0, 1, 2, 3, 4, 5, 0, 1, 2, 3, 4, 5, 0, 1, 2, 3, 4, 5, 0, 1, 2, 3, 4, 5, 0, 1, 2, 3, 4, 5, 0, 1, 2, 3, 4, 5, 0, 1, 2, 3, 4, 5, 0, 1, 2, 3, 4, 5, 0, 1, 2, 3, 4, 5, 0, 1, 2, 3, 4, 5, 0, 1, 2, 3, 4, 5, 0, 1, 2, 3, 4, 5, 0, 1, 2, 3, 4, 5, 0, 1, 2, 3, 4, 5, 0, 1, 2, 3, 4, 5, 0, 1, 2, 3, 4, 5, 0, 1, 2, 3, 4, 5, 0, 1, 2, 3, 4, 5, 6, 7, 8, 9, 0, 1, 2, 3, 4, 5, 6, 7, 8, 9, 0, 1, 2, 3, 4, 5, 6, 7, 8, 9, 0, 1, 2, 3, 4, 5, 6, 7, 8, 9, 0, 1, 2, 3, -1, -1, -1, -1, -1, -1, -1, -1, -1, -1, -1, -1, -1, -1, -1, -1, -1, -1, -1, -1, -1, -1, -1, -1, -1, -1, -1, -1, -1, -1, -1, -1, -1, -1, -1, -1]
def aFl : List Int := [0, 1, 1, 2, 2, 2, 3, 3, 3, 3, 3, 3, 4, 5, 5, 6, 7, 7, 7, 7, 7, 7, 7, 7, 7, 8, 9, 9, 9, 9, 10, 11, 11, 12, 14, 16, 16, 16, 17, 18, 18, 18, 18, 18, 18, 18, 18, 19, 20, 22, 22, 22, 23, 24, 24, 24, 24, 24, 24, 24, 24, 24, 24, 24, 24, 24, 24, 24, 24, 24, 24, 24, 24, 24, 24, 24, 24, 24, 24, 24, 24, 24, 24, 24, 24, 24, 24, 24, 24, 24, 24, 24, 24, 24, 24, 24, 24, 24, 24, 24, 24, 24, 24, 24, 24, 24, 24, 24, 24, 24, 24, 24, 24, 24, 24, 24, 24, 24, 24, 24, 24, 24, 24, 24, 24, 24, 24, 24, 24, 24, 24, 24, 24, 24, 24, 24, 24, 24, 24, 24, 24, 24, 24, 24, 24, 24, 24, 24, 24, 24, 24, 24, 24, 24, 24, 24, 24, 24, 24, 24, 24, 24, 24, 24, 24, 24, 24, 24, 24, 24, 24, 24, 24, 24, 24, 24, 24, 24, 24, 24, 24, 24, 24, 24, 24, 24, 24, 24, 24, 24, 24, 24, 24, 24, 24, 24, 24, 24, 24, 24, 24, 24, 24, 24, 24, 24, 24, 24, 24, 24, 24, 24, 24, 24, 24, 24, 24, 24, 24, 24, 24, 24, 24, 24, 24, 24, 24, 24, 24, 24, 24, 24, 24, 24, 24, 24, 24, 24, 24, 24, 24, 24, 24, 24, 24, 24, 24, 24, 24, 24, 24, 24, 24, 24, 24, 24, 24, 24, 24, 24, 24, 24, 24, 24, 24, 24, 24, 24, 24, 24, 24, 24, 24, 24, 24, 24, 24, 24, 24, 24, 24, 24, 24, 24, 24, 24, 24, 24, 24, 24, 24, 24, 24, 24, 24, 24, 24, 24, 24, 24, 24, 24, 24, 24, 24, 24, 24, 24, 24, 24, 24, 24, 24, 24, 24, 24, 24, 24, 24, 24, 24, 24, 24, 24, 24, 24, 24, 24, 24, 24, 24, 24, 24, 24, 24, 24, 24, 24, 24, 24, 24, 24, 24, 24, 24, 24, 24, 24, 24, 24, 24, 24, 24, 24, 24, 24, 24, 24, 24, 24, 24, 24, 24, 24, 24, 24, 24, 24, 24, 24, 24, 24, 24, 24, 24, 24, 24, 25, 25, 25, 25, 25, 25, 25, 25, 25, 25, 25, 25, 25, 25, 25, 25, 25, 25, 25, 25, 26, 26, 26, 26, 26, 26, 26, 26, 26, 26, 26, 26, 26, 26, 26, 26, 26, 26, 26, 26, 28, 28, 28, 28, 29, 30, 31, 33, 34, 35, 36, 38, 39, 40, 41, 41, 41, 41, 41, 41, 41, 41, 41, 41, 43, 44, 44, 45, 47, 48, 49, 49, 52, 53, 57, 58, 58, 59, 59, 60]
def aCl : List Int := [1, 1, 1, 1, 1, 1, 1, 1, 1, 1, 1, 1, 1, 1, 1, 1, 1, 1, 1, 1, 1, 1, 1, 1, 1, 1, 1, 1, 1, 1, 1, 1, 1, 2, 2, 1, 1, 1, 1, 1, 1, 1, 1, 1, 1, 1, 1, 1, 2, 1, 1, 1, 1, 1, 1, 1, 1, 1, 1, 1, 1, 1, 1, 1, 1, 1, 1, 1, 1, 1, 1, 1, 1, 1, 1, 1, 1, 1, 1, 1, 1, 1, 1, 1, 1, 1, 1, 1, 1, 1, 1, 1, 1, 1, 1, 1, 1, 1, 1, 1, 1, 1, 1, 1, 1, 1, 1, 1, 1, 1, 1, 1, 1, 1, 1, 1, 1, 1, 1, 1, 1, 1, 1, 1, 1, 1, 1, 1, 1, 1, 1, 1, 1, 1, 1, 1, 1, 1, 1, 1, 1, 1, 1, 1, 1, 1, 1, 1, 1, 1, 1, 1, 1, 1, 1, 1, 1, 1, 1, 1, 1, 1, 1, 1, 1, 1, 1, 1, 1, 1, 1, 1, 1, 1, 1, 1, 1, 1, 1, 1, 1, 1, 1, 1, 1, 1, 1, 1, 1, 1, 1, 1, 1, 1, 1, 1, 1, 1, 1, 1, 1, 1, 1, 1, 1, 1, 1, 1, 1, 1, 1, 1, 1, 1, 1, 1, 1, 1, 1, 1, 1, 1, 1, 1, 1, 1, 1, 1, 1, 1, 1, 1, 1, 1, 1, 1, 1, 1, 1, 1, 1, 1, 1, 1, 1, 1, 1, 1, 1, 1, 1, 1, 1, 1, 1, 1, 1, 1, 1, 1, 1, 1, 1, 1, 1, 1, 1, 1, 1, 1, 1, 1, 1, 1, 1, 1, 1, 1, 1, 1, 1, 1, 1, 1, 1, 1, 1, 1, 1, 1, 1, 1, 1, 1, 1, 1, 1, 1, 1, 1, 1, 1, 1, 1, 1, 1, 1, 1, 1, 1, 1, 1, 1, 1, 1, 1, 1, 1, 1, 1, 1, 1, 1, 1, 1, 1, 1, 1, 1, 1, 1, 1, 1, 1, 1, 1, 1, 1, 1, 1, 1, 1, 1, 1, 1, 1, 1, 1, 1, 1, 1, 1, 1, 1, 1, 1, 1, 1, 1, 1, 1, 1, 1, 1, 1, 1, 1, 1, 1, 1, 1, 1, 1, 1, 1, 1, 1, 1, 1, 1, 1, 1, 1, 1, 1, 1, 1, 1, 1, 1, 1, 1, 1, 1, 1, 1, 1, 2, 2, 2, 2, 2, 2, 2, 2, 2, 2, 2, 2, 2, 2, 2, 2, 2, 2, 2, 2, 1, 1, 1, 1, 1, 1, 2, 1, 1, 1, 2, 1, 1, 1, 2, 2, 2, 2, 2, 2, 2, 2, 2, 2, 1, 1, 1, 2, 1, 1, 3, 3, 1, 4, 1, 1, 1, 1, 1, 1]
def pSl : List Int := [3, 3, 2, 4, 1, 1, 2, 2, 2, 2, 1, 2, 3, 2, 3, 1, 2, 3, 3, 2, 1, 2, 1, 2, 1, 1, 1, 1, 1, 1, 2, 4, 5, 1, 2, 4, 4, 4, 2, 2, 2, 1, 2, 1, 2, 3, 2, 2, 1, 3, 1, 1, 2, 4, 1, 1, 1, 1, 2, 3, 1]
def pLl : List Int := [18, 14, 1, 6, 2, 1, 1, 1, 1, 1, 1, 1, 13, 1, 13, 1, 1, 17, 13, 1, 3, 1, 3, 1, 6, 1, 3, 1, 4, 13, 1, 6, 4, 1, 1, 6, 6, 6, 1, 1, 1, 3, 1, 14, 1, 14, 1, 1, 6, 14, 2, 2, 1, 6, 2, 2, 2, 1, 1, 18, 1]
def pMl : List Int := [18, 14, 20, 6, 2, 8, 30, 90, 28, 30, 6, 20, 13, 17, 13, 12, 30, 17, 13, 20, 3, 9, 3, 3, 6, 15, 3, 15, 4, 13, 30, 6, 4, 4, 12, 6, 6, 6, 3, 10, 2, 3, 27, 14, 20, 14, 16, 30, 6, 14, 2, 2, 34, 6, 2, 2, 2, 12, 25, 18, 10]
def pOl : List Int := [0, 0, 0, 0, 0, 0, 0, 0, 0, 0, 0, 0, 0, 1, 0, 1, 0, 0, 0, 0, 0, 0, 0, 0, 0, 0, 0, 0, 0, 0, 0, 0, 0, 0, 0, 0, 0, 1, 0, 0, 0, 0, 0, 0, 0, 0, 1, 0, 0, 0, 0, 0, 0, 0, 0, 1, 1, 0, 0, 0, 0]
def aKl : List Nat := [2, 12, 22, 102, 212, 222, 112, 122, 132, 152, 162, 172, 202, 302, 372, 902, 912, 922, 932, 942, 952, 962, 972, 982, 992, 2353, 2403, 2413, 2503, 2513, 2423, 2433, 2543, 2533, 2553, 4003, 4013, 4033, 4023, 4103, 4113, 4123, 4133, 4143, 4153, 4163, 4173, 4203, 4213, 4223, 4243, 4263, 4273, 31004, 31014, 31024, 31034, 31044, 31054, 31104, 31114, 31124, 31134, 31144, 31154, 31204, 31214, 31224, 31234, 31244, 31254, 31304, 31314, 31324, 31334, 31344, 31354, 31404, 31414, 31424, 31434, 31444, 31454, 31504, 31514, 31524, 31534, 31544, 31554, 31604, 31614, 31624, 31634, 31644, 31654, 32004, 32014, 32024, 32034, 32044, 32054, 32104, 32114, 32124, 32134, 32144, 32154, 32204, 32214, 32224, 32234, 32244, 32254, 32304, 32314, 32324, 32334, 32344, 32354, 32404, 32414, 32424, 32434, 32444, 32454, 32504, 32514, 32524, 32534, 32544, 32554, 32604, 32614, 32624, 32634, 32644, 32654, 32704, 32714, 32724, 32734, 32744, 32754, 32804, 32814, 32824, 32834, 32844, 32854, 32904, 32914, 32924, 32934, 32944, 32954, 33004, 33014, 33024, 33034, 33044, 33054, 33104, 33114, 33124, 33134, 33144, 33154, 33204, 33214, 33224, 33234, 33244, 33254, 33304, 33314, 33324, 33334, 33344, 33354, 33404, 33414, 33424, 33434, 33444, 33454, 33504, 33514, 33524, 33534, 33544, 33554, 33604, 33614, 33624, 33634, 33644, 33654, 33704, 33714, 33724, 33734, 33744, 33754, 34004, 34014, 34024, 34034, 34044, 34054, 34104, 34114, 34124, 34134, 34144, 34154, 34204, 34214, 34224, 34234, 34244, 34254, 34304, 34314, 34324, 34334, 34344, 34354, 34404, 34414, 34424, 34434, 34444, 34454, 34504, 34514, 34524, 34534, 34544, 34554, 34604, 34614, 34624, 34634, 34644, 34654, 34704, 34714, 34724, 34734, 34744, 34754, 34804, 34814, 34824, 34834, 34844, 34854, 34904, 34914, 34924, 34934, 34944, 34954, 35004, 35014, 35024, 35034, 35044, 35054, 35104, 35114, 35124, 35134, 35144, 35154, 35204, 35214, 35224, 35234, 35244, 35254, 35304, 35314, 35324, 35334, 35344, 35354, 35404, 35414, 35424, 35434, 35444, 35454, 35504, 35514, 35524, 35534, 35544, 35554, 35604, 35614, 35624, 35634, 35644, 35654, 35704, 35714, 35724, 35734, 35744, 35754, 36004, 36014, 36024, 36034, 36044, 36054, 36104, 36114, 36124, 36134, 36144, 36154, 36204, 36214, 36224, 36234, 36244, 36254, 36304, 36314, 36324, 36334, 36344, 36354, 36404, 36414, 36424, 36434, 36444, 36454, 36504, 36514, 36524, 36534, 36544, 36554, 36604, 36614, 36624, 36634, 36644, 36654, 36704, 36714, 36724, 36734, 36744, 36754, 36804, 36814, 36824, 36834, 36844, 36854, 36904, 36914, 36924, 36934, 36944, 36954, 39504, 39514, 39524, 39534, 39544, 39554, 39004, 39014, 39024, 39034, 39044, 39054, 39064, 39074, 39084, 39094, 39204, 39214, 39224, 39234, 39244, 39254, 39264, 39274, 39284, 39294, 39104, 39114, 39124, 39134, 39144, 39154, 39164, 39174, 39184, 39194, 39304, 39314, 39324, 39334, 39344, 39354, 39364, 39374, 39384, 39394, 39404, 39414, 39424, 39434, 70014, 70024, 70034, 70044, 70054, 70064, 70074, 70084, 70094, 70104, 70304, 70314, 70324, 70334, 70344, 70354, 70364, 70374, 70384, 70394, 80014, 80024, 80124, 80034, 80044, 80054, 80064, 80264, 80074, 80084, 80114, 80134, 80204, 80174, 80184, 80194]
def lLo : List Int := [0, 1, 10, 11, 15, 20, 21, 30, 37, 90, 91, 235, 240, 242, 243, 250, 253, 254, 255, 310, 320, 340, 360, 390, 391, 392, 393, 394, 395, 400, 402, 403, 410, 420, 421, 422, 424, 426, 427, 7001, 7002, 7003, 7004, 7005, 7006, 7007, 7008, 7009, 7010, 7030, 8001, 8002, 8003, 8004, 8005, 8006, 8007, 8008, 8011, 8012, 8013, 8017, 8019, 8020, 8026]
def lHi : List Int := [0, 2, 10, 13, 17, 20, 22, 30, 37, 90, 99, 235, 241, 242, 243, 251, 253, 254, 255, 316, 337, 357, 369, 390, 391, 392, 393, 394, 395, 401, 402, 403, 417, 420, 421, 422, 424, 426, 427, 7001, 7002, 7003, 7004, 7005, 7006, 7007, 7008, 7009, 7010, 7039, 8001, 8002, 8003, 8004, 8005, 8006, 8007, 8008, 8011, 8012, 8013, 8018, 8019, 8020, 8026]
def lDg : List Int := [2, 2, 2, 2, 2, 2, 2, 2, 2, 2, 2, 3, 3, 3, 3, 3, 3, 3, 3, 3, 3, 3, 3, 3, 3, 3, 3, 3, 3, 3, 3, 3, 3, 3, 3, 3, 3, 3, 3, 4, 4, 4, 4, 4, 4, 4, 4, 4, 4, 4, 4, 4, 4, 4, 4, 4, 4, 4, 4, 4, 4, 4, 4, 4, 4]
def lMo : List Int := [-1, -1, -1, -1, -1, -1, -1, -1, -1, -1, -1, -1, -1, -1, -1, -1, -1, -1, -1, 5, 5, 5, 5, 9, 9, 9, 9, 3, 5, -1, -1, -1, -1, -1, -1, -1, -1, -1, -1, -1, -1, -1, -1, -1, -1, -1, -1, -1, -1, -1, -1, -1, -1, -1, -1, -1, -1, -1, -1, -1, -1, -1, -1, -1, -1]
def lP0 : List Int := [3180, 3140, 2201, 4060, 4060, 1020, 2201, 1081, 1081, 2301, 2901, 2281, 2301, 1061, 2201, 2301, 3130, 2201, 3130, 1060, 1060, 1060, 1060, 1151, 1030, 1151, 1030, 1040, 1060, 2301, 3170, 2301, 3130, 2201, 1030, 1030, 1030, 1030, 2031, 1130, 2301, 4060, 1041, 2121, 4060, 4060, 2031, 2101, 2021, 1030, 1140, 2201, 3140, 2301, 1060, 3140, 2341, 4060, 1121, 2201, 2251, 3180, 1101, 2251, 3140]
def lP1 : List Int := [0, 0, 0, 0, 0, 0, 0, 0, 0, 0, 0, 0, 0, 0, 0, 0, 2173, 0, 1123, 0, 0, 0, 0, 0, 1151, 0, 1151, 0, 0, 0, 0, 0, 0, 0, 2091, 0, 0, 0, 0, 0, 0, 5040, 0, 0, 0, 4062, 0, 0, 0, 2271, 0, 0, 2163, 0, 0, 1020, 0, 1020, 0, 0, 0, 0, 0, 0, 1020]
def lP2 : List Int := [0, 0, 0, 0, 0, 0, 0, 0, 0, 0, 0, 0, 0, 0, 0, 0, 0, 0, 0, 0, 0, 0, 0, 0, 0, 0, 0, 0, 0, 0, 0, 0, 0, 0, 0, 0, 0, 0, 0, 0, 0, 0, 0, 0, 0, 0, 0, 0, 0, 0, 0, 0, 0, 0, 0, 1020, 0, 1022, 0, 0, 0, 0, 0, 0, 1020]
def lP3 : List Int := [0, 0, 0, 0, 0, 0, 0, 0, 0, 0, 0, 0, 0, 0, 0, 0, 0, 0, 0, 0, 0, 0, 0, 0, 0, 0, 0, 0, 0, 0, 0, 0, 0, 0, 0, 0, 0, 0, 0, 0, 0, 0, 0, 0, 0, 0, 0, 0, 0, 0, 0, 0, 0, 0, 0, 0, 0, 1022, 0, 0, 0, 0, 0, 0, 0]
def ixF (a dg : Int) : List Int → List Int → Nat → Int
  | n :: ns, e :: es, i => if n = a ∧ e = dg then i else ixF a dg ns es (i + 1)
  | _, _, _ => -1
/-- the place of an AI in the model's table -/
def ixV (a dg : Int) : Int := ixF a dg aNl aDl 0
def aN (i : Int) : Int := aNl.getD i.toNat 0
def aD (i : Int) : Int := aDl.getD i.toNat 0
def aP (i : Int) : Int := aPl.getD i.toNat 0
def aF (i : Int) : Int := aFl.getD i.toNat 0
def aC (i : Int) : Int := aCl.getD i.toNat 0
def pS (i : Int) : Int := pSl.getD i.toNat 0
def pL (i : Int) : Int := pLl.getD i.toNat 0
def pM (i : Int) : Int := pMl.getD i.toNat 0
def pO (i : Int) : Int := pOl.getD i.toNat 0
/-! the lines, as lists -/
theorem lin_ok : ∀ i : Nat, i < 65 → LN (8 * (i : Int)) = lLo.getD i 0 ∧ LN (8 * (i : Int) + 1) = lHi.getD i 0 ∧ LN (8 * (i : Int) + 2) = lDg.getD i 0 ∧ LN (8 * (i : Int) + 3) = lMo.getD i 0 ∧ LN (8 * (i : Int) + 4) = lP0.getD i 0 ∧ LN (8 * (i : Int) + 5) = lP1.getD i 0 ∧ LN (8 * (i : Int) + 6) = lP2.getD i 0 ∧ LN (8 * (i : Int) + 7) = lP3.getD i 0 := by decide +kernel
def lnG (a dg : Int) : List Int → List Int → List Int → List Int → Nat → Int
  | lo :: los, hi :: his, ld :: lds, mo :: mos, i => if (if mo = -1 then decide (lo ≤ a ∧ a ≤ hi ∧ dg = ld) else decide (lo ≤ a / 10 ∧ a / 10 ≤ hi ∧ dg - 1 = ld ∧ a % 10 ≤ mo)) = true then (i : Int) else lnG a dg los his lds mos (i + 1)
  | _, _, _, _, _ => -1
theorem lnOk_l (a dg : Int) {i : Nat} (hi : i < 65) : lnOk (8 * (i : Int)) a dg = (if lMo.getD i 0 = -1 then decide (lLo.getD i 0 ≤ a ∧ a ≤ lHi.getD i 0 ∧ dg = lDg.getD i 0) else decide (lLo.getD i 0 ≤ a / 10 ∧ a / 10 ≤ lHi.getD i 0 ∧ dg - 1 = lDg.getD i 0 ∧ a % 10 ≤ lMo.getD i 0)) := by
  have t := lin_ok i hi
  unfold lnOk
  rw [t.1, t.2.1, t.2.2.1, t.2.2.2.1]
  by_cases z : lMo.getD i 0 = -1
  · simp only [if_pos z]
    simp only [z, true_or, decide_true, Bool.and_true, Bool.decide_and]
  · simp only [if_neg z]
    simp only [z, false_or, Bool.decide_and]
theorem l_len : lLo.length = 65 ∧ lHi.length = 65 ∧ lDg.length = 65 ∧ lMo.length = 65 := by decide +kernel
theorem lineF_G (a dg : Int) : ∀ n i : Nat, i + n = 65 → lineF a dg n i = lnG a dg (lLo.drop i) (lHi.drop i) (lDg.drop i) (lMo.drop i) i
  | 0, i => fun hi => by
    rw [List.drop_eq_nil_of_le (by rw [l_len.1]; omega)]
    rfl
  | n + 1, i => fun hi => by
    have l := l_len
    rw [drop_getD (l := lLo) (by omega), drop_getD (l := lHi) (by omega), drop_getD (l := lDg) (by omega), drop_getD (l := lMo) (by omega)]
    unfold lineF lnG
    rw [lnOk_l a dg (by omega), lineF_G a dg n (i + 1) (by omega)]
theorem lineV_G (a dg : Int) : lineV a dg = lnG a dg lLo lHi lDg lMo 0 := lineF_G a dg 65 0 rfl
theorem cell_l {ln : Int} (h0 : 0 ≤ ln) (h1 : ln < 65) : cellV ln 3 = lMo.getD ln.toNat 0 ∧ partV ln 0 = lP0.getD ln.toNat 0 ∧ partV ln 1 = lP1.getD ln.toNat 0 ∧ partV ln 2 = lP2.getD ln.toNat 0 ∧ partV ln 3 = lP3.getD ln.toNat 0 := by
  have t := lin_ok ln.toNat (by omega)
  rw [show ((ln.toNat : Nat) : Int) = ln by omega] at t
  obtain ⟨t1, t2, t3, t4, t5, t6, t7, t8⟩ := t
  unfold partV cellV
  refine ⟨?_, ?_, ?_, ?_, ?_⟩
  · rw [if_neg (by omega), ← t4]; congr 1; omega
  · rw [if_pos (by decide), if_neg (by omega), ← t5]; congr 1; omega
  · rw [if_pos (by decide), if_neg (by omega), ← t6]; congr 1; omega
  · rw [if_pos (by decide), if_neg (by omega), ← t7]; congr 1; omega
  · rw [if_pos (by decide), if_neg (by omega), ← t8]; congr 1; omega
/-! the table against the lines -/
def chk3 (q : Int) (j : Nat) (f c : Int) : Bool := if (j : Int) < c then decide (q ≠ 0 ∧ q / 1000 = pS (f + j) ∧ q / 10 % 100 = pM (f + j) ∧ pL (f + j) = (if q % 2 ≠ 0 then 1 else q / 10 % 100) ∧ pO (f + j) = (if 2 ≤ q % 10 then 1 else 0)) else decide (q = 0)
def chk2 (ln n d p f c : Int) : Bool := decide (0 ≤ ln ∧ 0 ≤ n ∧ n < 10000 ∧ 2 ≤ d ∧ d ≤ 4 ∧ 1 ≤ c ∧ c ≤ 4 ∧ 0 ≤ f ∧ f + c ≤ 61 ∧ p = (if lMo.getD ln.toNat 0 ≠ -1 then n % 10 else -1)) && ((chk3 (lP0.getD ln.toNat 0) 0 f c && chk3 (lP1.getD ln.toNat 0) 1 f c) && (chk3 (lP2.getD ln.toNat 0) 2 f c && chk3 (lP3.getD ln.toNat 0) 3 f c))
def chk1 (n d p f c : Int) : Bool := match lnG n d lLo lHi lDg lMo 0 with
  | .ofNat l => chk2 (.ofNat l) n d p f c
  | .negSucc _ => false
def chkLs : List Int → List Int → List Int → List Int → List Int → Bool
  | n :: ns, d :: ds, p :: ps, f :: fs, c :: cs => chk1 n d p f c && chkLs ns ds ps fs cs
  | [], [], [], [], [] => true
  | _, _, _, _, _ => false
theorem chkLs_ok : chkLs aNl aDl aPl aFl aCl = true := by decide +kernel
theorem chkLs_get : ∀ (ns ds ps fs cs : List Int), chkLs ns ds ps fs cs = true → ∀ i, i < ns.length → chk1 (ns.getD i 0) (ds.getD i 0) (ps.getD i 0) (fs.getD i 0) (cs.getD i 0) = true
  | n :: ns, d :: ds, p :: ps, f :: fs, c :: cs => fun h i hi => by
    unfold chkLs at h
    rw [Bool.and_eq_true] at h
    cases i with
    | zero => exact h.1
    | succ i => exact chkLs_get ns ds ps fs cs h.2 i (by simpa using hi)
  | [], _, _, _, _ => fun _ i hi => absurd hi (by simp)
  | _ :: _, [], _, _, _ => fun h => by simp [chkLs] at h
  | _ :: _, _ :: _, [], _, _ => fun h => by simp [chkLs] at h
  | _ :: _, _ :: _, _ :: _, [], _ => fun h => by simp [chkLs] at h
  | _ :: _, _ :: _, _ :: _, _ :: _, [] => fun h => by simp [chkLs] at h
def ndK : List Nat → Bool
  | [] => true
  | x :: t => t.all (fun y => !(Nat.beq x y)) && ndK t
theorem ndK_ok : ndK aKl = true := by decide +kernel
theorem ndK_get : ∀ (l : List Nat), ndK l = true → ∀ i j, i < j → j < l.length → l.getD i 0 ≠ l.getD j 0
  | [] => fun _ i j _ hj => absurd hj (by simp)
  | x :: t => fun h i j hij hj => by
    unfold ndK at h
    rw [Bool.and_eq_true] at h
    cases j with
    | zero => omega
    | succ j =>
      cases i with
      | zero =>
        intro e
        have m : t.getD j 0 ∈ t := by
          rw [List.getD_eq_getElem?_getD, List.getElem?_eq_getElem (by simpa using hj)]
          exact List.getElem_mem _
        have w := List.all_eq_true.mp h.1 _ m
        have e2 : x = t.getD j 0 := by simpa using e
        rw [← e2] at w
        simp at w
      | succ i =>
        have := ndK_get t h.2 i j (by omega) (by simpa using hj)
        simpa using this
def zipK : List Int → List Int → List Nat → Bool
  | n :: ns, d :: ds, k :: ks => Nat.beq (10 * n.toNat + d.toNat) k && zipK ns ds ks
  | [], [], [] => true
  | _, _, _ => false
theorem zipK_ok : zipK aNl aDl aKl = true := by decide +kernel
theorem zipK_get : ∀ (ns ds : List Int) (ks : List Nat), zipK ns ds ks = true → ks.length = ns.length ∧ ∀ i, i < ns.length → ks.getD i 0 = 10 * (ns.getD i 0).toNat + (ds.getD i 0).toNat
  | n :: ns, d :: ds, k :: ks => fun h => by
    unfold zipK at h
    rw [Bool.and_eq_true] at h
    have ih := zipK_get ns ds ks h.2
    refine ⟨by simp [ih.1], fun i hi => ?_⟩
    cases i with
    | zero => simpa using (Nat.eq_of_beq_eq_true h.1).symm
    | succ i => simpa using ih.2 i (by simpa using hi)
  | [], [], [] => fun _ => ⟨rfl, fun i hi => absurd hi (by simp)⟩
  | [], _ :: _, _ => fun h => by simp [zipK] at h
  | [], [], _ :: _ => fun h => by simp [zipK] at h
  | _ :: _, [], _ => fun h => by simp [zipK] at h
  | _ :: _, _ :: _, [] => fun h => by simp [zipK] at h
def chkB (i : Nat) : Bool :=
  (List.range ((lHi.getD i 0).toNat + 1 - (lLo.getD i 0).toNat)).all (fun k => if lMo.getD i 0 = -1 then aKl.any (Nat.beq (10 * ((lLo.getD i 0).toNat + k) + (lDg.getD i 0).toNat)) else (List.range ((lMo.getD i 0).toNat + 1)).all (fun p => aKl.any (Nat.beq (10 * (10 * ((lLo.getD i 0).toNat + k) + p) + ((lDg.getD i 0).toNat + 1)))))
theorem chkB_all : (List.range 65).all chkB = true := by decide +kernel
theorem lin_nn : ∀ i : Nat, i < 65 → 0 ≤ lLo.getD i 0 ∧ 0 ≤ lDg.getD i 0 ∧ lDg.getD i 0 ≤ 4 := by decide +kernel
/-- part j of the place's row is the line's -/
def chkP (ln ix : Int) (j : Nat) : Bool :=
  if (j : Int) < aC ix then decide (partV ln j ≠ 0 ∧ psV ln j = pS (aF ix + j) ∧ mostV (partV ln j) = pM (aF ix + j) ∧ pL (aF ix + j) = (if partV ln j % 2 ≠ 0 then 1 else mostV (partV ln j)) ∧ pO (aF ix + j) = (if 2 ≤ partV ln j % 10 then 1 else 0))
  else decide (partV ln j = 0)
theorem ixF_spec (a dg : Int) : ∀ (ns es : List Int) (i : Nat), ns.length = es.length → ixF a dg ns es i ≠ -1 → ∃ k, k < ns.length ∧ ixF a dg ns es i = ((i + k : Nat) : Int) ∧ ns.getD k 0 = a ∧ es.getD k 0 = dg
  | [], _, i => fun _ h => absurd rfl h
  | n :: ns, [], i => fun hl _ => by simp at hl
  | n :: ns, e :: es, i => fun hl h => by
    unfold ixF at h ⊢
    by_cases q : n = a ∧ e = dg
    · rw [if_pos q]
      exact ⟨0, by simp, rfl, q.1, q.2⟩
    · rw [if_neg q] at h ⊢
      obtain ⟨k, h1, h2, h3, h4⟩ := ixF_spec a dg ns es (i + 1) (by simpa using hl) h
      exact ⟨k + 1, by simp; omega, by rw [h2]; omega, by simpa using h3, by simpa using h4⟩
theorem aNl_len : aNl.length = 457 := by decide +kernel
theorem aDl_len : aDl.length = 457 := by decide +kernel
/-- an AI's place -/
theorem ixV_spec {a dg : Int} (h : ixV a dg ≠ -1) : 0 ≤ ixV a dg ∧ ixV a dg < 457 ∧ aN (ixV a dg) = a ∧ aD (ixV a dg) = dg := by
  obtain ⟨k, h1, h2, h3, h4⟩ := ixF_spec a dg aNl aDl 0 (by rw [aNl_len, aDl_len]) h
  rw [aNl_len] at h1
  have e : ixV a dg = (k : Int) := by unfold ixV; rw [h2]; simp
  rw [e]
  exact ⟨by omega, by omega, by simpa [aN] using h3, by simpa [aD] using h4⟩
theorem ixV_rg (a dg : Int) : -1 ≤ ixV a dg ∧ ixV a dg < 457 := by
  by_cases h : ixV a dg = -1
  · rw [h]; decide
  · have := ixV_spec h; omega
theorem ixF_ne (a dg : Int) : ∀ (ns es : List Int) (i : Nat), ns.length = es.length → (∃ k, k < ns.length ∧ ns.getD k 0 = a ∧ es.getD k 0 = dg) → ixF a dg ns es i ≠ -1
  | [], _, i => fun _ h => by obtain ⟨k, hk, _⟩ := h; simp at hk
  | n :: ns, [], i => fun hl _ => by simp at hl
  | n :: ns, e :: es, i => fun hl h => by
    unfold ixF
    by_cases q : n = a ∧ e = dg
    · rw [if_pos q]; omega
    · rw [if_neg q]
      obtain ⟨k, h1, h2, h3⟩ := h
      cases k with
      | zero => exact absurd ⟨by simpa using h2, by simpa using h3⟩ q
      | succ k => exact ixF_ne a dg ns es (i + 1) (by simpa using hl) ⟨k, by simpa using h1, by simpa using h2, by simpa using h3⟩
theorem aK_at {k : Nat} (hk : k < 457) : aKl.getD k 0 = 10 * (aN k).toNat + (aD k).toNat := by
  have := (zipK_get aNl aDl aKl zipK_ok).2 k (by rw [aNl_len]; omega)
  unfold aN aD
  rw [Int.toNat_natCast]
  exact this
theorem aKl_len : aKl.length = 457 := by rw [(zipK_get aNl aDl aKl zipK_ok).1, aNl_len]
theorem tabA0 {i : Nat} (hi : i < 457) : lineV (aN i) (aD i) ≠ -1 ∧ (0 ≤ aN i ∧ aN i < 10000 ∧ 2 ≤ aD i ∧ aD i ≤ 4 ∧ 1 ≤ aC i ∧ aC i ≤ 4 ∧ 0 ≤ aF i ∧ aF i + aC i ≤ 61 ∧ aP i = (if hasPt (lineV (aN i) (aD i)) = true then aN i % 10 else -1)) ∧ ∀ j : Nat, j < 4 → chkP (lineV (aN i) (aD i)) i j = true := by
  have h := chkLs_get aNl aDl aPl aFl aCl chkLs_ok i (by rw [aNl_len]; omega)
  have e1 : aNl.getD i 0 = aN i := by unfold aN; rw [Int.toNat_natCast]
  have e2 : aDl.getD i 0 = aD i := by unfold aD; rw [Int.toNat_natCast]
  have e3 : aPl.getD i 0 = aP i := by unfold aP; rw [Int.toNat_natCast]
  have e4 : aFl.getD i 0 = aF i := by unfold aF; rw [Int.toNat_natCast]
  have e5 : aCl.getD i 0 = aC i := by unfold aC; rw [Int.toNat_natCast]
  rw [e1, e2, e3, e4, e5] at h
  unfold chk1 at h
  rw [← lineV_G] at h
  have lr := lineV_rg (aN i) (aD i)
  generalize hl : lineV (aN i) (aD i) = ln at *
  have h2 : chk2 ln (aN i) (aD i) (aP i) (aF i) (aC i) = true := by
    split at h
    · exact h
    · exact absurd h (by decide)
  unfold chk2 at h2
  rw [Bool.and_eq_true, Bool.and_eq_true, Bool.and_eq_true, Bool.and_eq_true, decide_eq_true_eq] at h2
  obtain ⟨⟨q0, q1, q2, q3, q4, q5, q6, q7, q8, q9⟩, ⟨c0, c1⟩, c2, c3⟩ := h2
  have cl := cell_l q0 lr.2
  obtain ⟨m0, m1, m2, m3, m4⟩ := cl
  refine ⟨by omega, ⟨q1, q2, q3, q4, q5, q6, q7, q8, ?_⟩, fun j hj => ?_⟩
  · rw [q9]
    unfold hasPt
    rw [m0]
    simp only [decide_eq_true_eq]
  · have g : ∀ (j : Nat) (q : Int), partV ln j = q → chk3 q j (aF i) (aC i) = true → chkP ln i j = true := fun j q e c => by
      unfold chkP psV mostV
      rw [e]
      exact c
    rcases (show j = 0 ∨ j = 1 ∨ j = 2 ∨ j = 3 by omega) with e | e | e | e
    · subst e; exact g 0 _ m1 c0
    · subst e; exact g 1 _ m2 c1
    · subst e; exact g 2 _ m3 c2
    · subst e; exact g 3 _ m4 c3
/-- what the table says of a place -/
theorem tabA {i : Int} (h0 : 0 ≤ i) (h1 : i < 457) : (ixV (aN i) (aD i) = i ∧ lineV (aN i) (aD i) ≠ -1 ∧ 0 ≤ aN i ∧ aN i < 10000 ∧ 2 ≤ aD i ∧ aD i ≤ 4 ∧ 1 ≤ aC i ∧ aC i ≤ 4 ∧ 0 ≤ aF i ∧ aF i + aC i ≤ 61 ∧ aP i = (if hasPt (lineV (aN i) (aD i)) = true then aN i % 10 else -1)) ∧ ∀ j : Nat, j < 4 → chkP (lineV (aN i) (aD i)) i j = true := by
  have ei : i = (i.toNat : Int) := by omega
  generalize i.toNat = n at ei
  subst ei
  have t := tabA0 (i := n) (by omega)
  refine ⟨⟨?_, t.1, t.2.1⟩, t.2.2⟩
  have ne : ixV (aN n) (aD n) ≠ -1 := ixF_ne _ _ aNl aDl 0 (by rw [aNl_len, aDl_len]) ⟨n, by rw [aNl_len]; omega, by unfold aN; rw [Int.toNat_natCast], by unfold aD; rw [Int.toNat_natCast]⟩
  have s := ixV_spec ne
  generalize hx : ixV (aN n) (aD n) = x at *
  have k1 := aK_at (k := n) (by omega)
  have k2 := aK_at (k := x.toNat) (by omega)
  rw [show ((x.toNat : Nat) : Int) = x by omega, s.2.2.1, s.2.2.2] at k2
  have l := aKl_len
  rcases Nat.lt_trichotomy n x.toNat with c | c | c
  · exact absurd (k1.trans k2.symm) (ndK_get aKl ndK_ok n x.toNat c (by omega))
  · omega
  · exact absurd (k2.trans k1.symm) (ndK_get aKl ndK_ok x.toNat n c (by omega))
theorem any_K {v : Nat} (h : aKl.any (Nat.beq v) = true) : ∃ k : Nat, k < 457 ∧ 10 * (aN k).toNat + (aD k).toNat = v := by
  obtain ⟨x, hx, e⟩ := List.any_eq_true.mp h
  obtain ⟨k, hk, e2⟩ := List.getElem_of_mem hx
  have l := aKl_len
  refine ⟨k, by omega, ?_⟩
  rw [← aK_at (by omega), List.getD_eq_getElem?_getD, List.getElem?_eq_getElem hk, Option.getD_some, e2]
  exact (Nat.eq_of_beq_eq_true e).symm
theorem tabB {a dg : Int} (h : lineV a dg ≠ -1) : ixV a dg ≠ -1 := by
  obtain ⟨k, hk, h1⟩ := lineF_ok a dg 65 0 (by decide) h
  have h2 := List.all_eq_true.mp chkB_all k (List.mem_range.mpr hk)
  have nn := lin_nn k hk
  unfold chkB at h2
  rw [lnOk_l a dg hk] at h1
  have fin : (∃ j : Nat, j < 457 ∧ 10 * (aN j).toNat + (aD j).toNat = 10 * a.toNat + dg.toNat) → 0 ≤ a → 0 ≤ dg → dg ≤ 5 → ixV a dg ≠ -1 := fun ⟨j, hj, e⟩ a0 d0 d5 => by
    have t := tabA0 (i := j) hj
    obtain ⟨t1, ⟨t2, t3, t4, t5, t6⟩, t7⟩ := t
    have en : aN j = a := by omega
    have ed : aD j = dg := by omega
    refine ixF_ne _ _ aNl aDl 0 (by rw [aNl_len, aDl_len]) ⟨j, by rw [aNl_len]; omega, ?_, ?_⟩
    · rw [← en]; unfold aN; rw [Int.toNat_natCast]
    · rw [← ed]; unfold aD; rw [Int.toNat_natCast]
  by_cases z : lMo.getD k 0 = -1
  · rw [if_pos z] at h1
    have q := of_decide_eq_true h1
    have h3 := List.all_eq_true.mp h2 (a - lLo.getD k 0).toNat (List.mem_range.mpr (by omega))
    rw [if_pos z] at h3
    obtain ⟨j, hj, e⟩ := any_K h3
    exact fin ⟨j, hj, by omega⟩ (by omega) (by omega) (by omega)
  · rw [if_neg z] at h1
    have q := of_decide_eq_true h1
    have h3 := List.all_eq_true.mp h2 (a / 10 - lLo.getD k 0).toNat (List.mem_range.mpr (by omega))
    rw [if_neg z] at h3
    have h4 := List.all_eq_true.mp h3 (a % 10).toNat (List.mem_range.mpr (by omega))
    obtain ⟨j, hj, e⟩ := any_K h4
    exact fin ⟨j, hj, by omega⟩ (by omega) (by omega) (by omega)
theorem tabC {a dg : Int} (h : ixV a dg ≠ -1) : lineV a dg ≠ -1 := by
  have s := ixV_spec h
  have t := (tabA s.1 s.2.1).1.2.1
  rw [s.2.2.1, s.2.2.2] at t
  exact t
/-- what the table says of an AI -/
theorem tabX {a dg : Int} (h : lineV a dg ≠ -1) : 0 ≤ ixV a dg ∧ ixV a dg < 457 ∧ aN (ixV a dg) = a ∧ aD (ixV a dg) = dg ∧ 0 ≤ a ∧ a < 10000 ∧ 2 ≤ dg ∧ dg ≤ 4 ∧ 1 ≤ aC (ixV a dg) ∧ aC (ixV a dg) ≤ 4 ∧ 0 ≤ aF (ixV a dg) ∧ aF (ixV a dg) + aC (ixV a dg) ≤ 61 ∧ aP (ixV a dg) = (if hasPt (lineV a dg) = true then a % 10 else -1) := by
  have s := ixV_spec (tabB h)
  have t := (tabA s.1 s.2.1).1
  rw [s.2.2.1, s.2.2.2] at t
  obtain ⟨t1, t2, t3, t4, t5, t6, t7, t8, t9, t10, t11⟩ := t
  exact ⟨s.1, s.2.1, s.2.2.1, s.2.2.2, t3, t4, t5, t6, t7, t8, t9, t10, t11⟩
theorem tabP {a dg : Int} (h : lineV a dg ≠ -1) {j : Int} (h0 : 0 ≤ j) (h1 : j < aC (ixV a dg)) : partV (lineV a dg) j ≠ 0 ∧ psV (lineV a dg) j = pS (aF (ixV a dg) + j) ∧ mostV (partV (lineV a dg) j) = pM (aF (ixV a dg) + j) ∧ pL (aF (ixV a dg) + j) = (if partV (lineV a dg) j % 2 ≠ 0 then 1 else mostV (partV (lineV a dg) j)) ∧ pO (aF (ixV a dg) + j) = (if 2 ≤ partV (lineV a dg) j % 10 then 1 else 0) := by
  have s := ixV_spec (tabB h)
  have x := tabX h
  have t := (tabA s.1 s.2.1).2 j.toNat (by omega)
  rw [s.2.2.1, s.2.2.2] at t
  unfold chkP at t
  rw [Int.toNat_of_nonneg h0, if_pos h1] at t
  exact of_decide_eq_true t
theorem tabQ {a dg : Int} (h : lineV a dg ≠ -1) {j : Int} (h1 : aC (ixV a dg) ≤ j) : partV (lineV a dg) j = 0 := by
  by_cases z : j < 4
  · have s := ixV_spec (tabB h)
    have x := tabX h
    have t := (tabA s.1 s.2.1).2 j.toNat (by omega)
    rw [s.2.2.1, s.2.2.2] at t
    unfold chkP at t
    rw [Int.toNat_of_nonneg (by omega), if_neg (by omega)] at t
    exact of_decide_eq_true t
  · unfold partV
    rw [if_neg (by omega)]
