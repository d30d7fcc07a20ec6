/** Calls that an object has behind it when a refused call comes; no state is good where the name does not say it. */
enum Past {
    NEW {
        @Override
        void on(CutWatch x) {
        }
    },
    GOOD_AT_THE_START {
        @Override
        void on(CutWatch x) {
            for (int p = 0; p < 3; p++) {
                x.start(p, true);
            }
        }
    },
    MESSAGES_UNDER_WAY {
        @Override
        void on(CutWatch x) {
            x.send(0, false);
            x.send(1, false);
            x.step(2, false);
            x.send(2, false);
            x.receive(1, 0, false);
            x.send(1, false);
        }
    },
    ALL_RECEIVED_GOOD_IN_THE_LAST_STATE {
        @Override
        void on(CutWatch x) {
            for (int p = 0; p < 3; p++) {
                x.send(p, false);
            }
            for (int p = 0; p < 3; p++) {
                x.receive(p, (p + 1) % 3, true);
            }
        }
    },
    ONE_IS_FULL {
        @Override
        void on(CutWatch x) {
            x.send(0, false);
            x.send(2, false);
            for (int k = 1; k <= 8; k++) {
                x.step(1, false);
            }
        }
    },
    FULL_OF_STEPS {
        @Override
        void on(CutWatch x) {
            for (int n = 0; n < 24; n++) {
                x.step(n % 3, false);
            }
        }
    },
    FULL_OF_SENDS {
        @Override
        void on(CutWatch x) {
            for (int n = 0; n < 24; n++) {
                x.send(n % 3, false);
            }
        }
    },
    FULL_AND_GOOD_IN_THE_LAST_STATE {
        @Override
        void on(CutWatch x) {
            for (int n = 0; n < 8; n++) {
                x.send(0, n == 7);
                x.receive(1, n, n == 7);
                x.step(2, n == 7);
            }
        }
    };

    abstract void on(CutWatch x);
}
