import java.nio.file.Files;
import java.nio.file.Path;
import java.util.regex.Matcher;
import java.util.regex.Pattern;

/** What can be seen of ../shared/LANGUAGE.md in the text of the class alone. */
public final class LanguageTest {
    private static final Due due = new Due();

    public static void main(String[] args) throws Exception {
        String source = Files.readString(Path.of("src/main/java/HostageRound.java"));
        String code = source.replaceAll("(?s)/\\*.*?\\*/", " ").replaceAll("//[^\n]*", " ");
        for (String word : new String[] {"import", "package", "throw", "throws", "try", "catch", "finally",
            "synchronized", "assert", "instanceof", "String", "Object", "System", "Thread", "Random",
            "equals", "hashCode", "toString", "double", "float", "protected", "volatile", "record", "var"}) {
            due.is("the word " + word, count(code, "\\b" + word + "\\b"), 0);
        }
        due.is("lambdas, method references", count(code, "->|::"), 0);
        due.is("exact functions", count(code, "Exact\\b"), 0);
        due.is("texts", count(code, "\""), 0);
        due.is("casts", count(code, "\\((int|long|char|byte|short|[A-Z]\\w*)\\) *[\\w(]"), 0);
        due.is("new arrays, the one in Row", count(code, "new \\w+\\["), 1);
        due.is("objects, none made by a call", count(code, "\\bnew\\b"), 1 + count(code, "(?m)^ +(private )?final \\w+ \\w+ = new \\w+\\("));
        due.is("indexes, those in Row", count(code, "\\w\\["), 2 + count(code, "cells\\["));
        due.is("divisors, those that are looked at", count(code, "[^/*]/[^/*]|%"), 8);
        due.is("signs beyond 126", source.chars().filter(c -> c > 126).count(), 0);
        methodsAreShort(code);
        due.end();
    }

    private static int count(String text, String pattern) {
        Matcher matcher = Pattern.compile(pattern).matcher(text);
        int found = 0;
        while (matcher.find()) {
            found++;
        }
        return found;
    }

    private static void methodsAreShort(String code) {
        String[] lines = code.split("\n");
        for (int i = 0; i < lines.length; i++) {
            boolean head = lines[i].matches(" {4,8}(public |private |static )*\\w+ ?\\w*\\([^=;]*\\) \\{");
            for (int j = i + 1; head && j < lines.length; j++) {
                if (lines[j].equals(lines[i].replaceAll("\\S.*", "") + "}")) {
                    due.holds(lines[i].trim() + " is short", j - i <= 60);
                    break;
                }
            }
        }
    }
}
