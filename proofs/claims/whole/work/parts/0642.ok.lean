theorem am_kl9 : (List.range 120).all (fun k => am_okA 298 (1080 + k)) = true := by decide +kernel
