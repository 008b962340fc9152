/** Counts the answers that are not as due, and prints each of them. */
final class Check {
    static final int NO_SUCH = FerryTimetable.NO_SUCH_ELEMENT;
    static final int BAD = FerryTimetable.BAD_VALUE;
    static final int FULL = FerryTimetable.FULL;
    static final int NONE = FerryTimetable.NONE;
    static final int STATE = FerryTimetable.STATE;
    static final int UNLIKE = FerryTimetable.UNLIKE;

    private static int wrong = 0;
    private static int asked = 0;
    private static String part = "";

    private Check() {
    }

    static void part(String name) {
        part = name;
    }

    /** Names the words of the document that the next answers are about; SentencesTest looks for them there. */
    static void sentence(String section, String words) {
        part = section + ", \"" + words + "\"";
    }

    static boolean isError(int answer) {
        return answer >= UNLIKE && answer <= NO_SUCH;
    }

    static void due(String call, int want, int got) {
        asked++;
        if (got != want) {
            wrong++;
            System.out.println(part + ": " + call + " answered " + got + ", due is " + want);
        }
    }

    static void holds(String what, boolean isSo) {
        asked++;
        if (!isSo) {
            wrong++;
            System.out.println(part + ": " + what + " does not hold");
        }
    }

    /** Appends a text in packs of four characters and returns what the last append answered. */
    static int append(FerryTimetable x, String text) {
        int answer = x.append(0);
        for (int i = 0; i < text.length(); i += 4) {
            answer = x.append(packed(text.substring(i, Math.min(i + 4, text.length()))));
        }
        return answer;
    }

    static int packed(String signs) {
        int packed = 0;
        for (int i = 0; i < signs.length(); i++) {
            packed = packed << 8 | signs.charAt(i);
        }
        return packed;
    }

    /** A port with a ship and a berth that never lie in each other's way by depth or wind. */
    static FerryTimetable easyPort() {
        FerryTimetable x = new FerryTimetable();
        x.addShip(100, 2, 20, 50);
        x.addBerth(300, 1);
        return x;
    }

    static void finish() {
        System.out.println(asked + " answers asked, " + wrong + " not as due");
        if (wrong != 0) {
            System.exit(1);
        }
    }
}
