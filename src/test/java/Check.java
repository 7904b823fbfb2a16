/** Counts answers that are not as due, and ends a test as the form of the tests asks. */
final class Check {
    private static int wrong = 0;
    private static int asked = 0;

    private Check() {
    }

    static void due(String what, long got, long want) {
        asked++;
        if (got != want) {
            wrong++;
            if (wrong <= 50) {
                System.out.println(what + " answered " + got + ", due is " + want);
            }
        }
    }

    static void dueTrue(String what, boolean got) {
        due(what, got ? 1 : 0, 1);
    }

    static void end(String name) {
        System.out.println(name + ": " + asked + " answers, " + wrong + " not as due");
        if (wrong != 0 || asked == 0) {
            System.exit(1);
        }
    }

    /** Puts a text into a sheet of bytes and takes it as a yard. */
    static int yardOf(ToppleYard x, String text) {
        return yardOf(x, text, 0, 0, 0);
    }

    static int yardOf(ToppleYard x, String text, int sheet, int lane, int from) {
        x.sheet(sheet, lane, from + text.length());
        for (int i = 0; i < text.length(); i++) {
            x.put(sheet, from + i, text.charAt(i));
        }
        return x.yard(sheet, lane, from, text.length());
    }

    static ToppleYard withYard(String text) {
        ToppleYard x = new ToppleYard();
        yardOf(x, text);
        return x;
    }

    /** Fills a new row of a sheet. */
    static void row(ToppleYard x, int sheet, int lane, int... numbers) {
        x.sheet(sheet, lane, numbers.length);
        for (int i = 0; i < numbers.length; i++) {
            x.put(sheet, i, numbers[i]);
        }
    }
}
