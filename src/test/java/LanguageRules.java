import java.lang.reflect.Constructor;
import java.lang.reflect.Field;
import java.lang.reflect.Method;
import java.lang.reflect.Modifier;
import java.nio.file.Files;
import java.nio.file.Path;
import java.util.Arrays;
import java.util.Set;
import java.util.TreeSet;
import java.util.regex.Matcher;
import java.util.regex.Pattern;
import java.util.stream.Collectors;

/** Those rules of ../shared/LANGUAGE.md, and the document's face, that can be read off the source or the compiled class. */
public final class LanguageRules {
    private static final String SOURCE = "src/main/java/WornWords.java";
    private static final String FACE = "status:int() top:long() bottom:long() tray:boolean(int,int,int) write:boolean(int,int,long) read:long(int,int)"
            + " pour:boolean(int,int,int,int,int) feed:int(int,int,int,int,int) village:int(int) law:int(int) fault:int(int) told:int(int)"
            + " form:long(int) word:int(int,int) words:int(int) loses:int(int) chain:long(int,int) life:int(int) twin:int(int,int)"
            + " common:int(int,int) rhymes:int(int,int) lone:int() mute:int() lasts:int(int) spread:int(int) wintry:int() say:int(int)"
            + " tell:int(int,int,int) follows:int(int,int) knows:long(int,int) pass:int(int) winter:int() cut:int(int,int,int,int,int)"
            + " bestCut:int(int,int,int) ways:int(int,int) fewest:int(int,int) fewestAt:int(int) howFar:int(int,int) cheap:int(int)"
            + " story:int(int,int) readings:int(int,int) gossip:int(int,int) gossiped:int(int) odds:boolean(int,int,int) mark:int() back:int()";
    private static int wrong = 0;

    public static void main(String[] args) throws Exception {
        String source = Files.readString(Path.of(SOURCE));
        String code = source.replaceAll("(?s)/\\*.*?\\*/", "").replaceAll("//[^\n]*", "").replaceAll("\"[^\"\n]*\"", "\"\"");
        for (String no : new String[] {"throw", "throws", "try", "catch", "synchronized", "assert", "import", "package", "protected", "volatile",
            "Random", "Thread", "Object", "HashMap", "enum", "goto"}) {
            refuse(Pattern.compile("\\b" + no + "\\b").matcher(code).find(), "the source has '" + no + "'");
        }
        refuse(code.contains("->"), "the source has a lambda");
        refuse(code.contains("::"), "the source has a method reference");
        refuse(Pattern.compile("Exact\\(").matcher(code).find(), "the source calls an ..Exact function");
        refuse(!source.chars().allMatch(c -> c == 10 || c >= 32 && c < 127), "the source has signs beyond ASCII");
        library(code);
        lengths(code);
        face();
        for (Class<?> inner : WornWords.class.getDeclaredClasses()) {
            members(inner);
        }
        refuse(WornWords.class.getDeclaredClasses().length > 12, "too many classes");
        System.out.println(wrong == 0 ? "the rules are kept" : wrong + " rules are broken");
        if (wrong != 0) {
            System.exit(1);
        }
    }

    private static void refuse(boolean broken, String what) {
        if (broken) {
            wrong++;
            System.out.println(what);
        }
    }

    /** Calls through a library class that rule 4 does not list. */
    private static void library(String code) {
        Matcher call = Pattern.compile("\\b(Math|Integer|Long|System|Arrays|String|StringBuilder|List|ArrayList|Character|Byte)\\.(\\w+)").matcher(code);
        Set<String> fine = Set.of("Math.min", "Math.max", "Integer.bitCount", "Integer.numberOfLeadingZeros", "System.arraycopy");
        while (call.find()) {
            refuse(!fine.contains(call.group()), "the source uses " + call.group());
        }
    }

    /** Methods of at most sixty lines. */
    private static void lengths(String code) {
        Matcher method = Pattern.compile("(?m)^( {4}| {8})(?:[\\w\\[\\]]+ )+(\\w+)\\([^)]*\\) \\{$").matcher(code);
        while (method.find()) {
            int end = code.indexOf("\n" + method.group(1) + "}", method.end());
            long lines = code.substring(method.start(), end).chars().filter(c -> c == '\n').count();
            refuse(lines > 60, method.group(2) + " has " + lines + " lines");
        }
    }

    private static void face() {
        Class<WornWords> c = WornWords.class;
        refuse(!Modifier.isPublic(c.getModifiers()) || !Modifier.isFinal(c.getModifiers()), "the class is public and final");
        Set<String> there = new TreeSet<>();
        Set<String> hidden = new TreeSet<>();
        for (Method m : c.getDeclaredMethods()) {
            String types = Arrays.stream(m.getParameterTypes()).map(Class::getName).collect(Collectors.joining(","));
            if (Modifier.isPrivate(m.getModifiers())) {
                hidden.add(m.getName());
            } else if (!m.isSynthetic()) {
                there.add(m.getName() + ":" + m.getReturnType().getName() + "(" + types + ")");
                refuse(!Modifier.isPublic(m.getModifiers()), m.getName() + " is not public");
            }
        }
        refuse(!there.equals(new TreeSet<>(Arrays.asList(FACE.split(" ")))), "the face is " + there);
        for (String name : hidden) {
            refuse(FACE.contains(name + ":"), "a private method is named " + name);
        }
        for (Field f : c.getDeclaredFields()) {
            refuse(!Modifier.isPrivate(f.getModifiers()) && !f.getName().equals("NONE"), f.getName() + " is not private");
        }
        for (Constructor<?> made : c.getDeclaredConstructors()) {
            refuse(!Modifier.isPublic(made.getModifiers()) || made.getParameterCount() != 0, "a constructor beyond the face");
        }
        members(c);
    }

    private static void members(Class<?> c) {
        refuse(c.getEnclosingClass() != null && !Modifier.isStatic(c.getModifiers()), c + " is not static");
        int fields = 0;
        for (Field f : c.getDeclaredFields()) {
            boolean isStatic = Modifier.isStatic(f.getModifiers());
            fields += isStatic ? 0 : 1;
            refuse(isStatic && !Modifier.isFinal(f.getModifiers()), c + "." + f.getName() + " is static and not final");
        }
        refuse(fields > 20, c + " has " + fields + " fields");
        for (Method m : c.getDeclaredMethods()) {
            refuse(m.getParameterCount() > 7, c + "." + m.getName() + " takes too many");
            refuse(c != WornWords.class && Arrays.stream(FACE.split(" ")).anyMatch(f -> f.startsWith(m.getName() + ":")), c + "." + m.getName() + " bears a public name");
        }
    }
}
