/** Where an object stands when a call is tried on it: new, in use, or with all full that can be full. */
enum Stand implements Portrait.Way {
    NEW {
        @Override
        public void lead(FollowedPeaks x) {
            // A new object stands there already.
        }
    },

    /** 3 frames of 4 places, 3 tracks, image 0 kept, 3 may be undone, 2 seen, a text of 17 letters. */
    IN_USE {
        @Override
        public void lead(FollowedPeaks x) {
            Checks.tell(x, "frame 0305;frame 0050;frame 5030;reach 5;least 2;");
            x.keep(0);
            x.sets(2, 1);
            x.levels(0, 3, 4);
            x.sees(2, -9);
            x.sees(5, -9);
            Checks.type(x, "frame 717;floor 2");
        }
    },

    /** 8 frames of 11 places, both images kept, 6 may be undone, 6 seen, a text of 140 letters. */
    FULL {
        @Override
        public void lead(FollowedPeaks x) {
            Checks.tell(x, "frame90309040506;frame03090405060;".repeat(4));
            x.keep(0);
            x.sets(0, 2);
            x.sets(1, 5);
            x.sets(2, 3);
            x.levels(0, 0, 8);
            x.keep(1);
            x.levels(7, 9, 7);
            x.levels(3, 3, 1);
            x.sets(1, 6);
            for (int f = 0; f < 6; f++) {
                x.sees(f, f % 2 * 4);
            }
            Checks.type(x, " ".repeat(110) + "frame 753;frame 357; reach 12;");
        }
    };

    /** A new object, led there. */
    FollowedPeaks object() {
        FollowedPeaks x = new FollowedPeaks();
        lead(x);
        return x;
    }
}
