import java.io.IOException;
import java.lang.reflect.Field;
import java.lang.reflect.Method;
import java.lang.reflect.Modifier;
import java.nio.file.Files;
import java.nio.file.Paths;
import java.util.ArrayList;
import java.util.Arrays;
import java.util.List;
import java.util.TreeSet;
import java.util.regex.Matcher;
import java.util.regex.Pattern;

/** What of LANGUAGE.md can be looked at from outside: the face, static state, words that may not stand, lengths. The argument: the program's file. */
public final class LanguageTest {
    private static final int LONGEST_METHOD = 60;
    private static final String[] FACE = {
        "boolean end(int)", "int changes(int,int,int)", "int clears(int)", "int commutes(int,int)", "int copies(int,int)", "int count(int)",
        "int dearest(int,int)", "int drains(int)", "int drops(int,int)", "int finds(int,int,int)", "int first(int,int)",
        "int greatest(int,int)", "int item(int,int) throws java.util.NoSuchElementException", "int joins(int,int)", "int longest(int,int)",
        "int order(int)", "int part(int,int,int)", "int parts(int,int,int)", "int powers(int,int)", "int puts(int,int,int)",
        "int reverses(int)", "int rule(int)", "int run(int)", "int same(int,int)", "int shared()", "int shifts(int,int,int)", "int sign(int)",
        "int slips(int,int,int)", "int sum(int)", "int table()", "int takes(int,int)", "int undoes(int)", "int unlike(int)",
        "int windows(int,int)", "int would(int,int)", "long row(int) throws java.util.NoSuchElementException",
    };
    private static final String[] FORBIDDEN = {
        "->", "::", "synchronized", "\\bassert\\b", "\\bfinally\\b", "\\bcatch\\b", "Exact\\(", "\\bprotected\\b", "\\bvar\\b", "\\bObject\\b",
        "\"\\s*\\+", "\\+\\s*\"", "\\.equals\\(", "hashCode", "toString", "System\\.(?!arraycopy)", "Thread", "Random", "\\bdouble\\b", "\\bfloat\\b",
        "while \\(true\\)", "for \\(;;\\)", "static \\{",
    };
    private static int wrong = 0;

    private static void fault(String what) {
        wrong++;
        System.out.println(what);
    }

    private static void face() {
        TreeSet<String> names = new TreeSet<>();
        TreeSet<String> shown = new TreeSet<>();
        for (Method m : EndSums.class.getDeclaredMethods()) {
            if (!Modifier.isPrivate(m.getModifiers())) {
                names.add(m.getName());
                shown.add(m.toString().replace("public ", "").replace("EndSums.", ""));
            }
        }
        TreeSet<String> due = new TreeSet<>(Arrays.asList(FACE));
        if (!shown.equals(due)) {
            fault("the face is " + shown);
        }
        ofClass(EndSums.class, names);
        int classes = 1;
        for (Class<?> c : EndSums.class.getDeclaredClasses()) {
            classes++;
            if (!Modifier.isStatic(c.getModifiers()) || Modifier.isPublic(c.getModifiers())) {
                fault(c + " is not static, or is public");
            }
            ofClass(c, names);
        }
        if (classes > 12) {
            fault(classes + " classes");
        }
        if (!Modifier.isFinal(EndSums.class.getModifiers()) || EndSums.class.getConstructors().length != 1) {
            fault("EndSums is not final, or has not one constructor");
        }
    }

    private static void ofClass(Class<?> c, TreeSet<String> publicNames) {
        int fields = 0;
        for (Field f : c.getDeclaredFields()) {
            int mods = f.getModifiers();
            fields += Modifier.isStatic(mods) ? 0 : 1;
            if (Modifier.isStatic(mods) && !Modifier.isFinal(mods)) {
                fault(f + " is static, not final");
            }
            if (c == EndSums.class && !Modifier.isPrivate(mods) && !f.getName().equals("NONE")) {
                fault(f + " is not private");
            }
        }
        if (fields > 20) {
            fault(c + " has " + fields + " fields");
        }
        for (Method m : c.getDeclaredMethods()) {
            if (Modifier.isPrivate(m.getModifiers()) && publicNames.contains(m.getName())) {
                fault(m + " bears the name of a public one");
            }
            if (m.getParameterCount() > 7) {
                fault(m + " takes more than seven parameters");
            }
        }
    }

    private static void words(List<String> lines) {
        for (int i = 0; i < lines.size(); i++) {
            String code = lines.get(i).replaceAll("//.*", "").replaceAll("^\\s*/?\\*.*", "");
            for (String word : FORBIDDEN) {
                if (Pattern.compile(word).matcher(code).find()) {
                    fault("line " + (i + 1) + " has " + word + ": " + code);
                }
            }
            if (code.startsWith("import ") && !code.equals("import java.util.NoSuchElementException;")) {
                fault("line " + (i + 1) + ": " + code);
            }
            if (code.startsWith("package ")) {
                fault("a package line");
            }
            for (char c : lines.get(i).toCharArray()) {
                if (c > 126) {
                    fault("line " + (i + 1) + " has a sign above 126");
                }
            }
        }
    }

    /** From a head that ends with a brace to the brace that stands as far in as it. */
    private static void lengths(List<String> lines) {
        Pattern head = Pattern.compile("^( +)(public|private)[^=;]*\\).*\\{$");
        List<String> seen = new ArrayList<>();
        for (int i = 0; i < lines.size(); i++) {
            Matcher m = head.matcher(lines.get(i));
            if (!m.matches()) {
                continue;
            }
            int k = i + 1;
            while (k < lines.size() && !lines.get(k).equals(m.group(1) + "}")) {
                k++;
            }
            seen.add(lines.get(i));
            if (k - i + 1 > LONGEST_METHOD) {
                fault("line " + (i + 1) + ": " + (k - i + 1) + " lines: " + lines.get(i));
            }
        }
        if (seen.size() < FACE.length) {
            fault("only " + seen.size() + " methods were seen");
        }
    }

    /** That calls make no objects or arrays (so 512 calls fit the one room): new stands in fields, constructors and throws alone. */
    private static void makings(List<String> lines) {
        String head = "";
        int seen = 0;
        for (int i = 0; i < lines.size(); i++) {
            String line = lines.get(i);
            if (line.matches("^ {4}(    )?(public|private).*\\{$")) {
                head = line.trim();
            }
            if (line.matches(".*\\bnew\\b.*") && !line.matches("^\\s*(//|/?\\*).*")) {
                seen++;
                boolean field = line.matches("^ {4}(    )?private [^(]* = new .*;$");
                boolean constructor = head.matches("(public|private) [A-Z]\\w*\\(.*");
                if (!field && !constructor && !line.trim().startsWith("throw new ")) {
                    fault("line " + (i + 1) + " makes an object in a call: " + line.trim());
                }
            }
        }
        if (seen == 0) {
            fault("nothing is made");
        }
    }

    public static void main(String[] args) throws IOException {
        List<String> lines = Files.readAllLines(Paths.get(args.length > 0 ? args[0] : "src/main/java/EndSums.java"));
        face();
        words(lines);
        lengths(lines);
        makings(lines);
        System.out.println("LanguageTest: " + lines.size() + " lines, " + wrong + " wrong");
        if (wrong != 0) {
            System.exit(1);
        }
    }
}
