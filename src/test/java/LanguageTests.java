public final class LanguageTests { static void run(Checks c, String p) {} }
