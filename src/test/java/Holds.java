/** Tests that name the section of the document and the words in it that they hold. */
final class Holds {
    private static final Document DOCUMENT = Document.read();

    private static String section = "";
    private static int tests;

    private Holds() {
    }

    /** Says where the words of the next tests stand. */
    static void section(String name) {
        section = name;
    }

    static void promise(int number) {
        section("Promise " + number);
    }

    /** Runs a test of some words of the section; an exception that comes out of it is a failure. */
    static void holds(String words, Runnable test) {
        tests++;
        Check.context = section + ", \"" + words + "\": ";
        Check.report(DOCUMENT.quote(section, words), "the document does not say this");
        int before = Check.count();
        try {
            test.run();
        } catch (RuntimeException e) {
            Check.report(false, "the test threw " + e);
        }
        Check.report(Check.count() > before, "the test has checked nothing");
        Check.context = "";
    }

    /** Tells the words of the document that no test has named. */
    static void finish(String name) {
        for (String known : DOCUMENT.sectionNames()) {
            for (String words : DOCUMENT.neverQuoted(known)) {
                Check.report(false, known + " has no test for \"" + words + "\"");
            }
        }
        System.out.println(name + ": " + tests + " tests of " + DOCUMENT.sectionNames().size() + " sections");
        Check.finish(name);
    }
}
