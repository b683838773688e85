/** The document's face, so that the program and the model of it can be asked alike. */
interface Face {
    void clear();

    int addActor();

    int addChannel(int src, int dst, int prod, int cons);

    boolean setTokens(int ch, int n);

    boolean setCapacity(int ch, int cap);

    int analyze();

    int verdict();

    long repetitions(int a);

    int scheduleLength();

    int scheduleAt(int i);

    int bound(int ch);

    int run(int steps);

    int position();

    int tokenCount(int ch);

    int tokenValue(int ch, int pos);

    int fired(int a);

    /** Every getter's answer, for every argument that can matter and some beside. */
    static String shown(Face x) {
        StringBuilder s = new StringBuilder();
        s.append("verdict ").append(x.verdict()).append(" position ").append(x.position());
        s.append(" repetitions");
        for (int a = -1; a <= 10; a++) {
            s.append(' ').append(x.repetitions(a));
        }
        s.append(" fired");
        for (int a = -1; a <= 10; a++) {
            s.append(' ').append(x.fired(a));
        }
        s.append(" schedule of ").append(x.scheduleLength()).append(':');
        for (int i = -1; i <= x.scheduleLength(); i++) {
            s.append(' ').append(x.scheduleAt(i));
        }
        for (int c = -1; c <= 24; c++) {
            s.append(" channel ").append(c).append(" bound ").append(x.bound(c));
            s.append(" count ").append(x.tokenCount(c)).append(':');
            for (int pos = -1; pos <= x.tokenCount(c) + 1; pos++) {
                s.append(' ').append(x.tokenValue(c, pos));
            }
        }
        return s.toString();
    }

    static Face of(SdfScheduler x) {
        return new Face() {
            public void clear() {
                x.clear();
            }

            public int addActor() {
                return x.addActor();
            }

            public int addChannel(int src, int dst, int prod, int cons) {
                return x.addChannel(src, dst, prod, cons);
            }

            public boolean setTokens(int ch, int n) {
                return x.setTokens(ch, n);
            }

            public boolean setCapacity(int ch, int cap) {
                return x.setCapacity(ch, cap);
            }

            public int analyze() {
                return x.analyze();
            }

            public int verdict() {
                return x.verdict();
            }

            public long repetitions(int a) {
                return x.repetitions(a);
            }

            public int scheduleLength() {
                return x.scheduleLength();
            }

            public int scheduleAt(int i) {
                return x.scheduleAt(i);
            }

            public int bound(int ch) {
                return x.bound(ch);
            }

            public int run(int steps) {
                return x.run(steps);
            }

            public int position() {
                return x.position();
            }

            public int tokenCount(int ch) {
                return x.tokenCount(ch);
            }

            public int tokenValue(int ch, int pos) {
                return x.tokenValue(ch, pos);
            }

            public int fired(int a) {
                return x.fired(a);
            }
        };
    }
}
