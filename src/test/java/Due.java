/** Counts the answers that are not as due, and ends the program by them. */
final class Due {
    private final String name;
    private String sentence = "";
    private int sentences;
    private int asked;
    private int wrong;

    Due(String name) {
        this.name = name;
    }

    /** What follows looks at this sentence of the document, until the next one. */
    void says(String sentence) {
        this.sentence = " [" + sentence + "]";
        sentences++;
    }

    void is(String what, long got, long want) {
        asked++;
        if (got != want) {
            wrong++;
            System.out.println(name + ": " + what + " answered " + got + ", due is " + want + sentence);
        }
    }

    void isTrue(String what, boolean holds) {
        is(what, holds ? 1 : 0, 1);
    }

    void end() {
        String about = sentences > 0 ? " about " + sentences + " sentences" : "";
        System.out.println(name + ": " + asked + " answers" + about + ", " + wrong + " wrong");
        if (wrong != 0 || asked == 0) {
            System.exit(1);
        }
    }

    static void writeText(HeatLines x, String text) {
        x.wipe();
        for (int i = 0; i < text.length(); i++) {
            x.write(text.charAt(i));
        }
    }

    static HeatLines told(String job) {
        HeatLines x = new HeatLines();
        writeText(x, job);
        if (x.job() < 0) {
            System.out.println("no job: " + job);
            System.exit(1);
        }
        return x;
    }

    /** Everything that can be asked without changing anything, as one text. */
    static String allOf(HeatLines x) {
        StringBuilder all = new StringBuilder();
        for (int what = 0; what < 20; what++) {
            all.append(x.about(what)).append(' ');
        }
        for (int i = 0; i < 8; i++) {
            all.append(x.heat(i)).append(' ').append(x.table(i)).append(' ').append(x.which()).append(' ');
            for (int what = 0; what < 4; what++) {
                all.append(x.line(i, what)).append(' ');
            }
        }
        return all.append(x.fault()).toString();
    }

    void unchanged(String what, String was, HeatLines x) {
        isTrue(what + " changes nothing", was.equals(allOf(x)));
    }
}
