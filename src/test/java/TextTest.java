/** Promises 2 to 5: append, clearText, errorPosition, load. */
public final class TextTest {
    public static void main(String[] args) {
        append();
        clearText();
        completeTexts();
        errorPositions();
        everyCharacterInEveryPlace();
        load();
        loadForgets();
        failedLoadChangesNothing();
        Checks.finish();
    }

    private static void append() {
        WordEquations x = new WordEquations();
        Checks.due("append(-1)", x.append(-1), -2);
        Checks.due("append(256)", x.append(256), -2);
        Checks.due("append(0)", x.append(0), 1);
        Checks.due("append(255)", x.append(255), 2);
        for (int length = 3; length <= 40; length++) {
            Checks.due("append to " + length, x.append('a'), length);
        }
        Checks.due("append(97) to a full text", x.append('a'), -4);
        Checks.due("append(256) to a full text", x.append(256), -2);
        Checks.due("append(MIN) to a full text", x.append(Integer.MIN_VALUE), -2);
        Checks.due("clearText() of a full text", x.clearText(), 40);
        Checks.due("append after clearText()", x.append('a'), 1);
    }

    private static void clearText() {
        WordEquations x = new WordEquations();
        Checks.due("clearText() of nothing", x.clearText(), 0);
        x.append('a');
        x.append('=');
        Checks.due("clearText()", x.clearText(), 2);
        Checks.due("clearText() again", x.clearText(), 0);
        Checks.due("errorPosition() after it", x.errorPosition(), 0);
    }

    private static void dueError(String text, int want) {
        WordEquations x = new WordEquations();
        Checks.type(x, text);
        Checks.due("errorPosition() of " + text, x.errorPosition(), want);
        Checks.due("load() of " + text, x.load() == -3 ? 1 : 0, want == -9 ? 0 : 1);
        Checks.due("clearText() of " + text, x.clearText(), text.length());
    }

    private static void completeTexts() {
        for (String text : new String[] {"=", "a=", "=b", "abWXYZab=ZYXWbaZZ", "=;W<0", "X=;X=0;X=1;X>2;X<9",
                "aaaaaaaa=bbbbbbbb;W<1;X=2;Y>3;Z<4"}) {
            dueError(text, -9);
        }
    }

    private static void errorPositions() {
        dueError("", 0);
        dueError("a", 1);
        dueError("abWXYZab", 8);
        dueError("abWXYZabX", 8);
        dueError("abWXYZab;", 8);
        dueError("V=a", 0);
        dueError("A=a", 0);
        dueError("a==", 2);
        dueError("a=<", 2);
        dueError("=abWXYZab", -9);
        dueError("=abWXYZabX", 9);
        dueError("a=b;", 4);
        dueError("a=b;a", 4);
        dueError("a=b;;", 4);
        dueError("a=b;W", 5);
        dueError("a=b;W3", 5);
        dueError("a=b;W!3", 5);
        dueError("a=b;W<", 6);
        dueError("a=b;W<X", 6);
        dueError("a=b;W<=", 6);
        dueError("a=b;W<10", 7);
        dueError("a=b;W<1a", 7);
        dueError("a=b;W<1W", 7);
        dueError("=;W<1;X=2;Y>3;Z<4;", 17);
        dueError("=;W<1;X=2;Y>3;Z<4a", 17);
        dueError(" a=b", 0);
        dueError("a =b", 1);
        dueError("a=b ", 3);
        dueError("a=b" + (char) 0, 3);
        dueError("aaaaaaaaaaaaaaaaaaaaaaaaaaaaaaaaaaaaaaaa", 8);
        dueError("aaaaaaaa=bbbbbbbb;W<1;X=2;Y>3;Z<4aaaaaaa", 33);
    }

    /** One place for each kind of character; every other character is the error there. */
    private static void everyCharacterInEveryPlace() {
        String[] before = {"", "a=", "a=b;", "a=b;W", "a=b;W<"};
        String[] accepted = {"abWXYZ=", "abWXYZ;", "WXYZ", "<=>", "0123456789"};
        for (int place = 0; place < before.length; place++) {
            for (int c = 0; c <= 255; c++) {
                WordEquations x = new WordEquations();
                Checks.type(x, before[place]);
                x.append(c);
                boolean error = x.errorPosition() == before[place].length();
                Checks.due("character " + c + " behind " + before[place] + " is an error", error ? 1 : 0,
                        accepted[place].indexOf(c) < 0 ? 1 : 0);
            }
        }
    }

    private static void load() {
        WordEquations x = new WordEquations();
        Checks.type(x, "abWX=YZ");
        Checks.due("load()", x.load(), 0);
        Checks.dueEquation("load()", x, "abWX=YZ");
        Checks.due("load() again, the text is kept", x.load(), 0);
        Checks.type(x, "X=;X>0;X<3;X=2;Y<1");
        Checks.due("load() with four constraints", x.load(), 4);
        Checks.dueEquation("the second load()", x, "X=");
        Checks.due("four constraints: countLengths(9)", x.countLengths(9), 0);
        Checks.type(x, "=");
        Checks.due("load() of =", x.load(), 0);
        Checks.dueEquation("load() of =", x, "=");
        Checks.due("old constraints are gone: satisfies(0, 0, 0, 0)", x.satisfies(0, 0, 0, 0), 1);
        Checks.due("the text is kept: clearText()", x.clearText(), 1);
    }

    private static void loadForgets() {
        WordEquations x = Checks.loaded("X=a");
        x.save(0);
        x.save(1);
        x.reverse();
        x.load();
        Checks.due("after load(): undo()", x.undo(), -3);
        Checks.due("after load(): restore(0)", x.restore(0), -3);
        Checks.due("after load(): restore(1)", x.restore(1), -3);
    }

    private static void failedLoadChangesNothing() {
        WordEquations x = Checks.loaded("X=ab;X>1");
        x.save(1);
        x.swapSides();
        Checks.type(x, "a=b;W");
        Checks.due("load() of a=b;W", x.load(), -3);
        Checks.dueEquation("a failed load()", x, "ab=X");
        Checks.due("constraints after a failed load()", x.satisfies(0, 1, 0, 0), 0);
        Checks.due("undo() after a failed load()", x.undo(), 0);
        Checks.due("restore(1) after a failed load()", x.restore(1), 3);
        Checks.due("clearText() after a failed load()", x.clearText(), 5);
    }
}
